/** Boundary cases of what is done by call: ==== 2 as far as it tells deeds, promises 6 to 19. */
final class DeedBounds {
    private static final int TERMS = Bounds.TERMS;
    private static final int LOWEST = Bounds.LOWEST;
    private static final int HIGHEST = Bounds.HIGHEST;
    /** Neither lengths nor caps of a link that is told. */
    private static final int[] NO_LENGTHS = {0, -1, -9999, LOWEST, 10000, 10001, HIGHEST};
    /** Neither values nor what lengths and caps can be made longer or shorter by. */
    private static final int[] NO_CHANGES = {-10000, -10001, LOWEST, LOWEST + 1, 10000, 10001, HIGHEST};

    private DeedBounds() {
    }

    static void run() {
        treesAtFirst();
        touchedTowns();
        rerootedTrees();
        linkedTowns();
        cutLinks();
        dearestOfSeveral();
        meetings();
        settledTrees();
        touch();
        reroot();
        link();
        linkRefused();
        cut();
        walk();
        seen();
        seenNothing();
        seenStays();
        meet();
        raise();
        raiseRefused();
        cutDearest();
        send();
        sendRefused();
        settle();
        exchange();
        exchangeRefused();
        shed();
        value();
    }

    /** longest() with nothing preferred. */
    static TownForest longestLoose() {
        TownForest x = Bounds.longest();
        for (int t = 22; t >= 0; t--) {
            x.touch(t);
        }
        return x;
    }

    private static int[] seenAll(TownForest x) {
        int[] row = new int[9];
        for (int what = 0; what < 9; what++) {
            row[what] = x.seen(what);
        }
        return row;
    }

    // ---- ==== 2

    private static void treesAtFirst() {
        Bounds.says(TERMS, "TOWNS and LINKS make TREES, each with a ROOT");
        Bounds.due("no towns: trees", new TownForest().count(2), 0);
        Bounds.due("24 towns: trees", Bounds.full().count(2), 24);
        Bounds.due("24 towns: links", Bounds.full().count(1), 0);
        Bounds.due("one row: trees", Bounds.longest().count(2), 1);
        Bounds.due("one row: links", Bounds.longest().count(1), 23);
        Bounds.says(TERMS, "any other TOWN has a PARENT, by a LINK.");
        Bounds.dueRow("parents", Check.facts(Bounds.base(), 1), -2, 0, 1, 1, 3, -2, 5);
        Bounds.says(TERMS, "A TOWN may have one CHILD that is PREFERRED.");
        TownForest star = Bounds.star();
        star.touch(1);
        Bounds.dueRow("one", Check.facts(star, 2), 1, -2, -2, -2);
        star.touch(3);
        Bounds.dueRow("another one", Check.facts(star, 2), 3, -2, -2, -2);
        star.touch(0);
        Bounds.dueRow("none", Check.facts(star, 2), -2, -2, -2, -2);
        Bounds.says(TERMS, "At first a TOWN is a TREE of its own, the ROOT, nothing PREFERRED.");
        TownForest full = Bounds.full();
        for (int t = 0; t < 24; t++) {
            Bounds.due("parent of " + t, full.town(t, 1), -2);
            Bounds.due("preferred of " + t, full.town(t, 2), -2);
            Bounds.due("root of " + t, full.town(t, 3), t);
            Bounds.due("size of " + t, full.town(t, 5), 1);
        }
        Bounds.says(TERMS, "A WAY: all TOWNS from one to another one of a TREE, with the LINKS between them.");
        Bounds.due("both ends", Bounds.row().along(3, 0, 0) * 10 + Bounds.row().along(3, 0, 3), 30);
        Bounds.due("no more", Bounds.row().along(3, 0, 4), -2);
        Bounds.due("one town", Bounds.row().along(3, 3, 0), 3);
    }

    private static void touchedTowns() {
        Bounds.says(TERMS, "TOUCHED is a TOWN t: on the WAY from the ROOT to t each TOWN's PREFERRED becomes the next one");
        TownForest x = longestLoose();
        Bounds.due("nothing preferred at first", x.count(3), 24);
        x.touch(23);
        Bounds.due("all in one chain", x.chain(0, 2), 24);
        Bounds.due("one chain", x.count(3), 1);
        Bounds.says(TERMS, "t's none.");
        x.touch(22);
        Bounds.due("the last but one", x.town(22, 2), -2);
        x.touch(0);
        Bounds.due("the root", x.town(0, 2), -2);
        Bounds.due("the one beneath it stays", x.town(1, 2), 2);
        Bounds.says(TERMS, "A SWITCH: a TOWN of these, t aside, whose PREFERRED wasn't the next one (none, another one).");
        TownForest y = Bounds.star();
        Bounds.due("none", y.touch(1), 1);
        Bounds.due("another one", y.touch(2), 1);
        Bounds.due("the same one", y.touch(2), 0);
        Bounds.due("t aside", y.touch(0), 0);
        Bounds.due("together", y.count(4), 2);
    }

    private static void rerootedTrees() {
        Bounds.says(TERMS, "REROOTED at t: t is TOUCHED; then the WAY is turned over: t is the ROOT");
        TownForest x = Bounds.row();
        Bounds.due("reroot(3)", x.reroot(3), 1);
        Bounds.due("root", x.town(0, 3), 3);
        Bounds.says(TERMS, "each TOWN's PARENT is the one that was beneath it on the WAY");
        Bounds.dueRow("parents", Check.facts(x, 1), 1, 2, 3, -2);
        Bounds.says(TERMS, "PREFERRED of each the one that was its PARENT (of the old ROOT none).");
        Bounds.dueRow("preferred", Check.facts(x, 2), -2, 0, 1, 2);
        Bounds.due("the root again", x.reroot(3), 0);
        Bounds.dueRow("it is touched", Check.facts(x, 2), -2, 0, 1, -2);
        TownForest alone = Bounds.alone();
        Bounds.due("alone", alone.reroot(0), 0);
        Bounds.due("alone: preferred", alone.town(0, 2), -2);
        TownForest star = Bounds.star();
        star.touch(2);
        star.reroot(1);
        Bounds.dueRow("aside of the way: parents", Check.facts(star, 1), 1, -2, 0, 0);
        Bounds.dueRow("the old root prefers none", Check.facts(star, 2), -2, 0, -2, -2);
    }

    private static void linkedTowns() {
        Bounds.says(TERMS, "LINKED are a and b: REROOTED at a; b is TOUCHED; then a's PARENT is b (not PREFERRED).");
        TownForest x = Bounds.base();
        Bounds.due("link(6, 4)", x.link(6, 4, 1, 1), 7);
        Bounds.dueRow("parents", Check.facts(x, 1), -2, 0, 1, 1, 3, 6, 4);
        Bounds.dueRow("preferred", Check.facts(x, 2), 1, 3, -2, 4, -2, -2, 5);
        TownForest y = Bounds.base();
        Bounds.due("link(5, 1)", y.link(5, 1, 1, 1), 7);
        Bounds.dueRow("a root, and one whose preferred goes", Check.facts(y, 2), 1, -2, -2, -2, -2, -2, -2);
        TownForest z = Bounds.full();
        Bounds.due("both alone", z.link(0, 23, 1, 1), 2);
        Bounds.due("parent", z.town(0, 1), 23);
        Bounds.due("not preferred", z.town(23, 2), -2);
    }

    private static void cutLinks() {
        Bounds.says(TERMS, "CUT is a LINK between a and b: REROOTED at a; b is TOUCHED; then the LINK is gone");
        TownForest x = Bounds.two();
        Bounds.due("cut(0, 1)", x.cut(0, 1), 4);
        Bounds.due("links", x.count(1), 0);
        Bounds.says(TERMS, "b is a ROOT, a's PREFERRED is none.");
        Bounds.dueRow("parents", Check.facts(x, 1), -2, -2);
        Bounds.dueRow("preferred", Check.facts(x, 2), -2, -2);
        TownForest row = Bounds.row();
        Bounds.due("cut(1, 2)", row.cut(1, 2), 4);
        Bounds.dueRow("parents", Check.facts(row, 1), 1, -2, -2, 2);
        Bounds.dueRow("preferred", Check.facts(row, 2), -2, -2, -2, -2);
        TownForest back = Bounds.row();
        Bounds.due("cut(2, 1)", back.cut(2, 1), 4);
        Bounds.dueRow("parents", Check.facts(back, 1), 1, -2, -2, 2);
        Bounds.says(TERMS, "WALKED is from a to b: REROOTED at a; b is TOUCHED.");
        TownForest star = Bounds.star();
        Bounds.due("walk(1, 2)", star.walk(1, 2), 8);
        Bounds.dueRow("parents", Check.facts(star, 1), 1, -2, 0, 0);
        Bounds.dueRow("preferred", Check.facts(star, 2), 2, 0, -2, -2);
        Bounds.due("walk(1, 1)", star.walk(1, 1), 0);
        Bounds.dueRow("preferred", Check.facts(star, 2), 2, -2, -2, -2);
    }

    private static void dearestOfSeveral() {
        Bounds.says(TERMS, "DEAREST of a WAY from a to b: its LINK of the greatest LENGTH, of several the one nearest to a.");
        TownForest x = Bounds.row();
        x.walk(3, 0);
        Bounds.due("from 3", x.seen(2) * 10 + x.seen(3), 32);
        x.walk(0, 3);
        Bounds.due("from 0", x.seen(2) * 10 + x.seen(3), 1);
        x.raise(2, 3, 1);
        x.walk(0, 3);
        Bounds.due("by one longer", x.seen(1) * 100 + x.seen(2) * 10 + x.seen(3), 523);
        x.raise(1, 2, 1);
        x.walk(0, 3);
        Bounds.due("of two", x.seen(1) * 100 + x.seen(2) * 10 + x.seen(3), 512);
        x.walk(3, 0);
        Bounds.due("of two, the other way", x.seen(1) * 100 + x.seen(2) * 10 + x.seen(3), 532);
    }

    private static void meetings() {
        Bounds.says(TERMS, "MEET of a and b: the TOWN that is farthest from the ROOT of those that are on the WAYS "
                + "from the ROOT to both.");
        TownForest x = Bounds.base();
        Bounds.due("one above the other", x.meets(4, 1), 1);
        Bounds.due("one beneath the other", x.meets(1, 4), 1);
        Bounds.due("neither", x.meets(4, 2), 1);
        Bounds.due("the root", x.meets(0, 4), 0);
        Bounds.due("the same", x.meets(4, 4), 4);
        x.reroot(4);
        Bounds.due("another root", x.meets(2, 3), 3);
        Bounds.due("alone", Bounds.alone().meets(0, 0), 0);
    }

    private static void settledTrees() {
        Bounds.says(TERMS, "SETTLED is a TREE: PREFERRED of each of its TOWNS becomes its HEAVY CHILD (none without)");
        TownForest x = Bounds.base();
        x.touch(6);
        Bounds.due("settle(4)", x.settle(4), 1);
        Bounds.dueRow("preferred", Check.facts(x, 2), 1, -2, -2, -2, -2, 6, -2);
        Bounds.due("settle(6)", x.settle(6), 1);
        Bounds.dueRow("half is not heavy", Check.facts(x, 2), 1, -2, -2, -2, -2, -2, -2);
        Bounds.says(TERMS, "no SWITCHES by that.");
        Bounds.due("count(4)", x.count(4), 1);
    }

    // ---- promises 6, 7

    private static void touch() {
        Bounds.says(6, "A TOWN is TOUCHED: how many SWITCHES");
        Bounds.done("a root", Bounds::base, x -> x.touch(0), 0);
        Bounds.done("the last town", Bounds::base, x -> x.touch(6), 1);
        Bounds.done("alone", Bounds::alone, x -> x.touch(0), 0);
        Bounds.done("most", DeedBounds::longestLoose, x -> x.touch(23), 23);
        Bounds.says(6, "NONE: no such TOWN.");
        Bounds.noSuchTown("touch", TownForest::touch, -1);
    }

    private static void reroot() {
        Bounds.says(7, "It is REROOTED at a TOWN: how many SWITCHES");
        Bounds.done("the root", Bounds::base, x -> x.reroot(0), 0);
        Bounds.done("the last town", Bounds::base, x -> x.reroot(6), 1);
        Bounds.done("alone", Bounds::alone, x -> x.reroot(0), 0);
        Bounds.done("most", DeedBounds::longestLoose, x -> x.reroot(23), 23);
        TownForest x = longestLoose();
        x.reroot(23);
        Bounds.due("turned over: depth", x.town(0, 4), 23);
        Bounds.due("turned over: one chain", x.chain(0, 3), 23);
        Bounds.says(7, "NONE: no such TOWN.");
        Bounds.noSuchTown("reroot", TownForest::reroot, -1);
    }

    // ---- promises 8, 9

    private static void link() {
        Bounds.says(8, "Two TOWNS are LINKED: how many TOWNS their TREE has then");
        Bounds.done("two", Bounds::full, x -> x.link(0, 23, 1, 1), 2);
        Bounds.done("lengths and caps, the least", Bounds::base, x -> x.link(0, 5, 1, 1), 7);
        Bounds.done("lengths and caps, the most", Bounds::base, x -> x.link(0, 5, 9999, 9999), 7);
        TownForest x = Bounds.full();
        for (int t = 1; t < 24; t++) {
            Bounds.due("link " + t, x.link(t - 1, t, t, 9999 - t), t + 1);
        }
        Bounds.due("length", x.town(22, 7), 23);
        Bounds.due("cap", x.town(22, 8), 9976);
    }

    private static void linkRefused() {
        Bounds.says(8, "NONE: no such ones");
        Bounds.noSuchPair("link", (x, a, b) -> x.link(a, b, 1, 1), -1);
        Bounds.says(8, "no such LENGTH");
        for (int length : NO_LENGTHS) {
            Bounds.changesNothing("length " + length, Bounds::lived, x -> x.link(0, 5, length, 1), -1);
        }
        Bounds.says(8, "CAP 1 .. 9999");
        for (int cap : NO_LENGTHS) {
            Bounds.changesNothing("cap " + cap, Bounds::lived, x -> x.link(0, 5, 1, cap), -1);
        }
        Bounds.says(8, "-2: they hang together (a TOWN with itself).");
        Bounds.changesNothing("linked already", Bounds::lived, x -> x.link(0, 1, 1, 1), -2);
        Bounds.changesNothing("by others", Bounds::lived, x -> x.link(0, 4, 1, 1), -2);
        Bounds.changesNothing("itself", Bounds::lived, x -> x.link(3, 3, 1, 1), -2);
        Bounds.changesNothing("alone", Bounds::alone, x -> x.link(0, 0, 1, 1), -2);
    }

    private static void cut() {
        Bounds.says(9, "A LINK is CUT: its LENGTH");
        Bounds.done("by its upper end", Bounds::base, x -> x.cut(5, 6), 3);
        Bounds.done("by its lower end", Bounds::base, x -> x.cut(6, 5), 3);
        Bounds.done("least", () -> Bounds.told("town a 0;town b 0;link a b 1 1;"), x -> x.cut(0, 1), 1);
        Bounds.done("most", () -> Bounds.told("town a 0;town b 0;link a b 9999 1;"), x -> x.cut(0, 1), 9999);
        Bounds.says(9, "NONE: no such TOWNS");
        Bounds.noSuchPair("cut", TownForest::cut, -1);
        Bounds.says(9, "-2: there is none between them.");
        Bounds.changesNothing("one between", Bounds::lived, x -> x.cut(0, 2), -2);
        Bounds.changesNothing("children of one", Bounds::lived, x -> x.cut(0, 3), -2);
        Bounds.changesNothing("apart", Bounds::lived, x -> x.cut(0, 5), -2);
        Bounds.changesNothing("two roots", Bounds::lived, x -> x.cut(2, 5), -2);
        Bounds.changesNothing("itself", Bounds::lived, x -> x.cut(3, 3), -2);
        Bounds.changesNothing("a root itself", Bounds::lived, x -> x.cut(2, 2), -2);
        Bounds.changesNothing("alone", Bounds::alone, x -> x.cut(0, 0), -2);
        TownForest x = Bounds.base();
        x.cut(5, 6);
        Bounds.due("cut already", x.cut(5, 6), -2);
        Bounds.due("one step", x.count(5), 1);
    }

    // ---- promises 10, 11, 12

    private static void walk() {
        Bounds.says(10, "It is WALKED from a to b, and SEEN: FAR");
        Bounds.done("to itself", Bounds::base, x -> x.walk(3, 3), 0);
        Bounds.done("alone", Bounds::alone, x -> x.walk(0, 0), 0);
        Bounds.done("there", Bounds::base, x -> x.walk(2, 4), 32);
        Bounds.done("and back", Bounds::base, x -> x.walk(4, 2), 32);
        TownForest y = Bounds.longest();
        y.raise(0, 23, 9996);
        Bounds.due("farthest", y.walk(23, 0), 23 * 9999);
        Bounds.due("farthest, seen", y.seen(0), 23 * 9999);
        Bounds.says(10, "NONE: no such ones");
        Bounds.noSuchPair("walk", TownForest::walk, -1);
        Bounds.says(10, "-2: they don't hang together.");
        Bounds.changesNothing("apart", Bounds::lived, x -> x.walk(0, 5), -2);
        Bounds.changesNothing("two roots", Bounds::lived, x -> x.walk(5, 2), -2);
        Bounds.changesNothing("24 apart", Bounds::full, x -> x.walk(0, 23), -2);
    }

    private static void seen() {
        TownForest x = Bounds.base();
        x.walk(2, 4);
        Bounds.says(11, "what 0 FAR, 1 LENGTH of the DEAREST, 2 its end nearer to a, 3 the other one, 4 the least CAP");
        Bounds.dueRow("a way of three", java.util.Arrays.copyOf(seenAll(x), 5), 32, 20, 2, 1, 4);
        Bounds.says(11, "5 VALUES of all its TOWNS together, 6 TOWNS, 7 SWITCHES it took, 8 the shortest LENGTH");
        Bounds.dueRow("a way of three", java.util.Arrays.copyOfRange(seenAll(x), 5, 9), 14, 4, 3, 5);
        x.walk(6, 5);
        Bounds.dueRow("a way of one link", seenAll(x), 3, 3, 6, 5, 8, 13, 2, 1, 3);
        TownForest y = Bounds.two();
        y.send(0, 1, 6);
        y.walk(1, 0);
        Bounds.due("a cap of 0", y.seen(4), 0);
        TownForest most = Bounds.told("town a -9999;town b 9999;town c 9999;link a b 9999 9999;link b c 1 9999;");
        most.walk(0, 2);
        Bounds.dueRow("most and least", seenAll(most), 10000, 9999, 0, 1, 9999, 9999, 3, 2, 1);
        TownForest z = longestLoose();
        z.walk(23, 0);
        Bounds.dueRow("the longest", seenAll(z), 69, 3, 23, 22, 4, 48, 24, 23, 3);
        Bounds.says(11, "(1 to 4, 8 of a WAY without LINKS: -2)");
        TownForest lived = Bounds.lived();
        lived.walk(3, 3);
        Bounds.dueRow("to itself", seenAll(lived), 0, -2, -2, -2, -2, 4, 1, 0, -2);
        TownForest alone = Bounds.alone();
        alone.walk(0, 0);
        Bounds.dueRow("alone", seenAll(alone), 0, -2, -2, -2, -2, 5, 1, 0, -2);
        Bounds.says(11, "NONE for another what");
        for (int what : Bounds.outside(9)) {
            Bounds.changesNothing("seen(" + what + ")", Bounds::lived, w -> w.seen(what), -1);
            Bounds.changesNothing("nothing seen: seen(" + what + ")", Bounds::base, w -> w.seen(what), -1);
        }
    }

    private static void seenNothing() {
        Bounds.says(11, "-3: nothing was SEEN.");
        for (int what = 0; what < 9; what++) {
            int asked = what;
            Bounds.changesNothing("seen(" + what + ")", Bounds::base, x -> x.seen(asked), -3);
            Bounds.due("new: seen(" + what + ")", new TownForest().seen(what), -3);
        }
        TownForest x = Bounds.base();
        x.walk(0, 5);
        x.walk(0, 7);
        Bounds.due("refused walks", x.seen(0), -3);
        TownForest y = Bounds.lived();
        y.text(20);
        Bounds.due("behind a text", y.seen(0), -3);
    }

    private static void seenStays() {
        Bounds.says(11, "Of what was SEEN by the latest walk() (as it was then)");
        TownForest x = Bounds.base();
        x.walk(2, 4);
        int[] first = seenAll(x);
        x.walk(0, 5);
        x.walk(-1, 0);
        x.raise(2, 4, 5);
        x.send(2, 4, 1);
        x.value(2, 500);
        x.meet(2, 4);
        x.exchange(2, 4, 1, 1);
        x.cutDearest(0, 4);
        x.shed(6);
        Bounds.dueRow("behind other deeds", seenAll(x), first);
        x.walk(5, 5);
        Bounds.dueRow("the latest", seenAll(x), 0, -2, -2, -2, -2, 6, 1, 0, -2);
    }

    private static void meet() {
        Bounds.says(12, "MEET of two TOWNS, a being TOUCHED, then b: it");
        Bounds.done("itself", Bounds::base, x -> x.meet(4, 4), 4);
        Bounds.done("a root with itself", Bounds::base, x -> x.meet(0, 0), 0);
        Bounds.done("above", Bounds::base, x -> x.meet(1, 4), 1);
        Bounds.done("beneath", Bounds::base, x -> x.meet(4, 1), 1);
        Bounds.done("neither", Bounds::base, x -> x.meet(2, 4), 1);
        Bounds.done("alone", Bounds::alone, x -> x.meet(0, 0), 0);
        TownForest x = Bounds.base();
        x.meet(4, 2);
        Bounds.dueRow("b last", Check.facts(x, 2), 1, 2, -2, 4, -2, -2, -2);
        Bounds.due("switches of both", x.count(4), 2);
        x.meet(2, 1);
        Bounds.dueRow("b has none", Check.facts(x, 2), 1, -2, -2, 4, -2, -2, -2);
        Bounds.says(12, "NONE: no such ones");
        Bounds.noSuchPair("meet", TownForest::meet, -1);
        Bounds.says(12, "-2: they don't hang together.");
        Bounds.changesNothing("apart", Bounds::lived, y -> y.meet(4, 6), -2);
        Bounds.changesNothing("two roots", Bounds::lived, y -> y.meet(2, 5), -2);
    }

    // ---- promises 13, 14, 15

    private static void raise() {
        Bounds.says(13, "It is WALKED from a to b (not SEEN)");
        TownForest x = Bounds.base();
        Bounds.due("raise(2, 4, 0)", x.raise(2, 4, 0), 3);
        Bounds.due("root", x.town(0, 3), 2);
        Bounds.due("switches", x.count(4), 3);
        Bounds.due("not seen", x.seen(0), -3);
        Bounds.says(13, "all LENGTHS on the WAY are d -9999 .. 9999 more: how many LINKS");
        Bounds.done("no link, most", Bounds::base, y -> y.raise(3, 3, 9999), 0);
        Bounds.done("no link, least", Bounds::base, y -> y.raise(3, 3, -9999), 0);
        Bounds.done("alone", Bounds::alone, y -> y.raise(0, 0, 1), 0);
        Bounds.done("one link up to 9999", Bounds::two, y -> y.raise(0, 1, 9995), 1);
        Bounds.done("one link down to 1", Bounds::two, y -> y.raise(1, 0, -3), 1);
        Bounds.done("most links", Bounds::longest, y -> y.raise(0, 23, -2), 23);
        TownForest least = Bounds.told("town a 0;town b 0;link a b 1 1;");
        Bounds.due("from 1 to 9999", least.raise(0, 1, 9998), 1);
        Bounds.due("9999", least.far(0, 1), 9999);
        Bounds.due("from 9999 to 1", least.raise(0, 1, -9998), 1);
        Bounds.due("1", least.far(0, 1), 1);
        x.raise(0, 2, -9);
        Bounds.dueRow("those of the way alone", Check.facts(x, 7), -2, 1, 11, 5, 7, -2, 3);
        Bounds.dueRow("caps stay", Check.facts(x, 8), -2, 5, 4, 9, 7, -2, 8);
    }

    private static void raiseRefused() {
        Bounds.says(13, "NONE: no such ones");
        Bounds.noSuchPair("raise", (x, a, b) -> x.raise(a, b, 1), -1);
        for (int d : NO_CHANGES) {
            Bounds.changesNothing("raise by " + d, Bounds::lived, x -> x.raise(0, 4, d), -1);
            Bounds.changesNothing("raise no link by " + d, Bounds::lived, x -> x.raise(3, 3, d), -1);
        }
        Bounds.says(13, "-2: they don't hang together");
        for (int d : new int[] {-9999, -1, 0, 1, 9999}) {
            Bounds.changesNothing("apart, by " + d, Bounds::lived, x -> x.raise(0, 5, d), -2);
        }
        Bounds.says(13, "-3: a LENGTH would not be 1 .. 9999.");
        Bounds.changesNothing("0", Bounds::two, x -> x.raise(0, 1, -4), -3);
        Bounds.changesNothing("-1", Bounds::two, x -> x.raise(0, 1, -5), -3);
        Bounds.changesNothing("10000", Bounds::two, x -> x.raise(0, 1, 9996), -3);
        Bounds.changesNothing("most", Bounds::lived, x -> x.raise(0, 4, 9999), -3);
        Bounds.changesNothing("least", Bounds::lived, x -> x.raise(0, 4, -9999), -3);
        Bounds.changesNothing("the last of a way alone", Bounds::lived, x -> x.raise(2, 3, -5), -3);
        Bounds.changesNothing("the first of a way alone", Bounds::lived, x -> x.raise(2, 4, 9980), -3);
        Bounds.changesNothing("one in the midst alone", Bounds::lived, x -> x.raise(0, 4, -5), -3);
    }

    private static void cutDearest() {
        Bounds.says(14, "It is WALKED from a to b (not SEEN), its DEAREST is CUT (its end nearer to a first): its LENGTH");
        Bounds.done("one link", Bounds::two, x -> x.cutDearest(0, 1), 4);
        Bounds.done("the longest of them", Bounds::base, x -> x.cutDearest(4, 2), 20);
        TownForest x = Bounds.row();
        Bounds.due("of three alike", x.cutDearest(3, 0), 4);
        Bounds.dueRow("the nearest", Check.facts(x, 1), 1, 2, -2, -2);
        Bounds.dueRow("preferred", Check.facts(x, 2), -2, 0, -2, -2);
        Bounds.due("not seen", x.seen(0), -3);
        TownForest y = Bounds.row();
        Bounds.due("of three alike", y.cutDearest(0, 3), 4);
        Bounds.dueRow("the nearest", Check.facts(y, 1), -2, -2, 1, 2);
        Bounds.says(14, "NONE: no such ones");
        Bounds.noSuchPair("cutDearest", TownForest::cutDearest, -1);
        Bounds.says(14, "-2: they don't hang together, are the same.");
        Bounds.changesNothing("apart", Bounds::lived, z -> z.cutDearest(0, 5), -2);
        Bounds.changesNothing("the same", Bounds::lived, z -> z.cutDearest(3, 3), -2);
        Bounds.changesNothing("the same root", Bounds::lived, z -> z.cutDearest(2, 2), -2);
        Bounds.changesNothing("alone", Bounds::alone, z -> z.cutDearest(0, 0), -2);
    }

    private static void send() {
        Bounds.says(15, "It is WALKED from a to b (not SEEN)");
        TownForest x = Bounds.base();
        Bounds.due("send(2, 4, 0)", x.send(2, 4, 0), 3);
        Bounds.due("root", x.town(0, 3), 2);
        Bounds.due("switches", x.count(4), 3);
        Bounds.due("not seen", x.seen(0), -3);
        Bounds.says(15, "all CAPS on the WAY are n -9999 .. 9999 less: how many LINKS");
        Bounds.done("no link, most", Bounds::base, y -> y.send(3, 3, 9999), 0);
        Bounds.done("no link, least", Bounds::base, y -> y.send(3, 3, -9999), 0);
        Bounds.done("alone", Bounds::alone, y -> y.send(0, 0, 1), 0);
        Bounds.done("one link down to 0", Bounds::two, y -> y.send(0, 1, 6), 1);
        Bounds.done("one link up to 9999", Bounds::two, y -> y.send(1, 0, -9993), 1);
        Bounds.done("most links", Bounds::longest, y -> y.send(0, 23, 4), 23);
        TownForest most = Bounds.told("town a 0;town b 0;link a b 1 9999;");
        Bounds.due("from 9999 to 0", most.send(0, 1, 9999), 1);
        Bounds.due("0", most.room(0, 1), 0);
        Bounds.due("from 0 to 9999", most.send(0, 1, -9999), 1);
        Bounds.due("9999", most.room(0, 1), 9999);
        x.send(0, 2, 4);
        Bounds.dueRow("those of the way alone", Check.facts(x, 8), -2, 1, 0, 9, 7, -2, 8);
        Bounds.dueRow("lengths stay", Check.facts(x, 7), -2, 10, 20, 5, 7, -2, 3);
    }

    private static void sendRefused() {
        Bounds.says(15, "NONE: no such ones");
        Bounds.noSuchPair("send", (x, a, b) -> x.send(a, b, 1), -1);
        for (int n : NO_CHANGES) {
            Bounds.changesNothing("send " + n, Bounds::lived, x -> x.send(0, 4, n), -1);
            Bounds.changesNothing("send over no link " + n, Bounds::lived, x -> x.send(3, 3, n), -1);
        }
        Bounds.says(15, "-2: they don't hang together");
        for (int n : new int[] {-9999, -1, 0, 1, 9999}) {
            Bounds.changesNothing("apart, " + n, Bounds::lived, x -> x.send(0, 5, n), -2);
        }
        Bounds.says(15, "-3: a CAP would not be 0 .. 9999.");
        Bounds.changesNothing("-1", Bounds::two, x -> x.send(0, 1, 7), -3);
        Bounds.changesNothing("10000", Bounds::two, x -> x.send(0, 1, -9994), -3);
        Bounds.changesNothing("most", Bounds::lived, x -> x.send(0, 4, 9999), -3);
        Bounds.changesNothing("least", Bounds::lived, x -> x.send(0, 4, -9999), -3);
        Bounds.changesNothing("the first of a way alone", Bounds::lived, x -> x.send(2, 4, 5), -3);
        Bounds.changesNothing("the last of a way alone", Bounds::lived, x -> x.send(4, 2, 5), -3);
        Bounds.changesNothing("one in the midst alone", Bounds::lived, x -> x.send(0, 4, -9991), -3);
    }

    // ---- promises 16 to 19

    private static void settle() {
        Bounds.says(16, "The TREE of a TOWN is SETTLED: how many of its TOWNS have another PREFERRED then, or none any more");
        Bounds.done("alone", Bounds::alone, x -> x.settle(0), 0);
        Bounds.done("nothing to change", Bounds::two, x -> x.settle(1), 0);
        Bounds.done("none any more", Bounds::base, x -> x.settle(0), 1);
        Bounds.done("another tree stays", Bounds::lived, x -> x.settle(6), 0);
        Bounds.done("most", DeedBounds::longestLoose, x -> x.settle(11), 22);
        TownForest star = Bounds.told("town a 0;town b 0;town c 0;town d 0;link b a 1 1;link c a 1 1;link d c 1 1;touch b;");
        Bounds.due("half is not heavy", star.settle(0), 1);
        Bounds.due("none any more", star.town(0, 2), -2);
        TownForest other = Bounds.told("town a 0;town b 0;town c 0;town d 0;town e 0;"
                + "link b a 1 1;link c a 1 1;link d c 1 1;link e d 1 1;touch c;touch b;");
        Bounds.due("another one, and one where was none", other.settle(1), 2);
        Bounds.dueRow("preferred", Check.facts(other, 2), 2, -2, 3, -2, -2);
        Bounds.says(16, "NONE: no such TOWN.");
        Bounds.noSuchTown("settle", TownForest::settle, -1);
    }

    private static void exchange() {
        Bounds.says(17, "a and b are LINKED as by link(), if they don't hang together: 0");
        Bounds.done("apart", Bounds::base, x -> x.exchange(0, 5, 9999, 9999), 0);
        Bounds.done("apart, the least", Bounds::base, x -> x.exchange(0, 5, 1, 1), 0);
        TownForest x = Bounds.base();
        TownForest twin = Bounds.base();
        x.exchange(6, 4, 9999, 1);
        twin.link(6, 4, 9999, 1);
        Bounds.dueRow("as by link()", Bounds.towns(x), Bounds.towns(twin));
        Bounds.says(17, "else, if the DEAREST of the WAY from a to b is longer than that, it is CUT as by cutDearest(), "
                + "then they are LINKED: its LENGTH");
        Bounds.done("by one longer", Bounds::two, y -> y.exchange(0, 1, 3, 1), 4);
        Bounds.done("most", () -> Bounds.told("town a 0;town b 0;link a b 9999 1;"), y -> y.exchange(0, 1, 9998, 1), 9999);
        TownForest z = Bounds.base();
        TownForest slow = Bounds.base();
        Bounds.due("exchange(4, 2, 19, 7)", z.exchange(4, 2, 19, 7), 20);
        slow.cutDearest(4, 2);
        slow.link(4, 2, 19, 7);
        Bounds.dueRow("as by cutDearest(), link()", Bounds.towns(z), Bounds.towns(slow));
        Bounds.due("not seen", z.seen(0), -3);
        Bounds.due("as many links", z.count(1), 5);
    }

    private static void exchangeRefused() {
        Bounds.says(17, "NONE: as of link()");
        Bounds.noSuchPair("exchange", (x, a, b) -> x.exchange(a, b, 1, 1), -1);
        for (int wrong : NO_LENGTHS) {
            Bounds.changesNothing("length " + wrong, Bounds::lived, x -> x.exchange(2, 4, wrong, 1), -1);
            Bounds.changesNothing("cap " + wrong, Bounds::lived, x -> x.exchange(2, 4, 1, wrong), -1);
            Bounds.changesNothing("apart, length " + wrong, Bounds::lived, x -> x.exchange(0, 5, wrong, 1), -1);
            Bounds.changesNothing("apart, cap " + wrong, Bounds::lived, x -> x.exchange(0, 5, 1, wrong), -1);
            Bounds.changesNothing("a is b, cap " + wrong, Bounds::lived, x -> x.exchange(3, 3, 1, wrong), -1);
        }
        Bounds.says(17, "-2: it is not longer, a is b.");
        Bounds.changesNothing("as long", Bounds::lived, x -> x.exchange(2, 4, 20, 1), -2);
        Bounds.changesNothing("by one shorter", Bounds::lived, x -> x.exchange(2, 4, 21, 1), -2);
        Bounds.changesNothing("most", Bounds::lived, x -> x.exchange(2, 4, 9999, 9999), -2);
        Bounds.changesNothing("a is b", Bounds::lived, x -> x.exchange(3, 3, 1, 1), -2);
        Bounds.changesNothing("alone", Bounds::alone, x -> x.exchange(0, 0, 1, 1), -2);
        Bounds.changesNothing("a link of 1", () -> Bounds.told("town a 0;town b 0;link a b 1 1;"),
                x -> x.exchange(0, 1, 1, 1), -2);
    }

    private static void shed() {
        Bounds.says(18, "The LINK of a TOWN to its PARENT is CUT (the PARENT first): its LENGTH");
        Bounds.done("the last town", Bounds::base, x -> x.shed(6), 3);
        TownForest x = Bounds.row();
        TownForest twin = Bounds.row();
        Bounds.due("shed(2)", x.shed(2), 4);
        twin.cut(1, 2);
        Bounds.dueRow("as by cut()", Bounds.towns(x), Bounds.towns(twin));
        Bounds.dueRow("parents", Check.facts(x, 1), 1, -2, -2, 2);
        Bounds.says(18, "NONE: no such TOWN");
        Bounds.noSuchTown("shed", TownForest::shed, -1);
        Bounds.says(18, "-2: it is a ROOT.");
        Bounds.changesNothing("a root", Bounds::lived, y -> y.shed(2), -2);
        Bounds.changesNothing("alone", Bounds::alone, y -> y.shed(0), -2);
        Bounds.due("shed already", x.shed(2), -2);
    }

    private static void value() {
        Bounds.says(19, "VALUE of a TOWN becomes v -9999 .. 9999: what it was");
        Bounds.done("most", Bounds::base, x -> x.value(6, 9999), 7);
        Bounds.done("least", Bounds::base, x -> x.value(0, -9999), 1);
        Bounds.done("the same", Bounds::base, x -> x.value(0, 1), 1);
        TownForest x = Bounds.alone();
        Bounds.due("9999", x.value(0, 9999), 5);
        Bounds.due("-9999", x.value(0, -9999), 9999);
        Bounds.due("0", x.value(0, 0), -9999);
        Bounds.due("value", x.town(0, 0), 0);
        Bounds.says(19, "NONE - 19999: no such ones.");
        Bounds.noSuchTown("value", (y, t) -> y.value(t, 1), -20000);
        for (int v : NO_CHANGES) {
            Bounds.changesNothing("value " + v, Bounds::lived, y -> y.value(0, v), -20000);
            Bounds.changesNothing("no town, value " + v, Bounds::lived, y -> y.value(7, v), -20000);
        }
    }
}
