/** Boundary cases of what is undone, of images and counts: ==== 4, promises 41 to 44. */
final class UndoBounds {
    private static final int TERMS = Bounds.TERMS;

    private UndoBounds() {
    }

    static void run() {
        twentyAtMost();
        ringOfSteps();
        whatChangesNothing();
        everyDeed();
        imageKeeps();
        asking();
        severalAnswers();
        undo();
        keep();
        back();
        count();
        lastCall();
    }

    private static TownForest kept() {
        TownForest x = Bounds.base();
        x.keep();
        return x;
    }

    // ---- ==== 4

    private static void twentyAtMost() {
        Bounds.says(TERMS, "What is done by call can be undone, the latest first (20 at most");
        for (int deeds : new int[] {0, 1, 19, 20, 21, 39, 40, 41, 61}) {
            TownForest x = Bounds.alone();
            for (int i = 1; i <= deeds; i++) {
                x.value(0, 100 + i);
            }
            int steps = Math.min(deeds, 20);
            Bounds.due("count(5) behind " + deeds, x.count(5), steps);
            for (int i = 1; i <= steps; i++) {
                Bounds.due("undo() " + i + " of " + deeds, x.undo(), steps - i);
                Bounds.due("value", x.town(0, 0), deeds - i == 0 ? 5 : 100 + deeds - i);
            }
            Bounds.due("one too many of " + deeds, x.undo(), -1);
            Bounds.due("value stays", x.town(0, 0), deeds <= 20 ? 5 : 100 + deeds - 20);
            Bounds.due("count(5)", x.count(5), 0);
        }
    }

    private static void ringOfSteps() {
        Bounds.says(TERMS, "the latest first");
        TownForest x = Bounds.alone();
        deeds(x, 1, 25);
        undone(x, 10, 15);
        deeds(x, 31, 13);
        Bounds.due("full again", x.count(5), 20);
        undone(x, 13, 15);
        undone(x, 7, 8);
        Bounds.due("none is left", x.undo(), -1);
        deeds(x, 51, 20);
        undone(x, 20, 8);
        Bounds.due("none is left", x.undo(), -1);
    }

    private static void deeds(TownForest x, int from, int many) {
        for (int i = from; i < from + many; i++) {
            x.value(0, i);
        }
    }

    private static void undone(TownForest x, int many, int value) {
        for (int i = 0; i < many; i++) {
            Bounds.due("undo()", x.undo() >= 0 ? 1 : 0, 1);
        }
        Bounds.due("value", x.town(0, 0), value);
    }

    private static void whatChangesNothing() {
        Bounds.says(TERMS, "what changes nothing that is told of TOWNS, too).");
        Bounds.done("touch of a town alone", Bounds::alone, x -> x.touch(0), 0);
        Bounds.done("reroot at a root", Bounds::alone, x -> x.reroot(0), 0);
        Bounds.done("walk to itself", Bounds::alone, x -> x.walk(0, 0), 0);
        Bounds.done("meet of itself", Bounds::alone, x -> x.meet(0, 0), 0);
        Bounds.done("raise by 0", Bounds::alone, x -> x.raise(0, 0, 0), 0);
        Bounds.done("send 0", Bounds::alone, x -> x.send(0, 0, 0), 0);
        Bounds.done("settle of a town alone", Bounds::alone, x -> x.settle(0), 0);
        Bounds.done("the same value", Bounds::alone, x -> x.value(0, 5), 5);
        TownForest x = Bounds.alone();
        for (int i = 0; i < 25; i++) {
            x.touch(0);
        }
        Bounds.due("they fill the 20", x.count(5), 20);
    }

    private static void everyDeed() {
        Bounds.says(41, "UNDO");
        Bounds.done("touch", Bounds::lived, x -> x.touch(0), 1);
        Bounds.done("reroot", Bounds::lived, x -> x.reroot(0), 1);
        Bounds.done("link", Bounds::lived, x -> x.link(0, 5, 9, 9), 7);
        Bounds.done("cut", Bounds::lived, x -> x.cut(1, 3), 5);
        Bounds.done("walk", Bounds::lived, x -> x.walk(0, 4), 22);
        Bounds.done("meet", Bounds::lived, x -> x.meet(0, 4), 1);
        Bounds.done("raise", Bounds::lived, x -> x.raise(0, 4, 9), 3);
        Bounds.done("cutDearest", Bounds::lived, x -> x.cutDearest(0, 2), 20);
        Bounds.done("send", Bounds::lived, x -> x.send(0, 4, 5), 3);
        Bounds.done("settle", Bounds::lived, x -> x.settle(0), 1);
        Bounds.done("exchange", Bounds::lived, x -> x.exchange(0, 2, 19, 1), 20);
        Bounds.done("exchange of two apart", Bounds::lived, x -> x.exchange(0, 6, 19, 1), 0);
        Bounds.done("shed", Bounds::lived, x -> x.shed(4), 7);
        Bounds.done("value", Bounds::lived, x -> x.value(0, -9999), 55);
    }

    private static void imageKeeps() {
        Bounds.says(TERMS, "An IMAGE keeps all but the TAPE, the FAULT, what was SEEN.");
        TownForest x = Bounds.base();
        x.touch(4);
        x.value(4, -77);
        int[] towns = Bounds.towns(x);
        x.keep();
        x.walk(4, 2);
        x.link(6, 0, 1, 1);
        x.raise(6, 0, 7);
        x.send(6, 0, 1);
        Check.tell(x, "town");
        Check.feed(x, "seed 9;");
        Bounds.due("back()", x.back(), 2);
        Bounds.dueRow("towns", Bounds.towns(x), towns);
        Bounds.due("switches", x.count(4), 1);
        Bounds.due("the tape stays", x.count(6), 20);
        Bounds.due("the fault stays", x.fault(0), 1);
        Bounds.due("its place stays", x.fault(1), 4);
        Bounds.due("what was seen stays", x.seen(0), 32);
        Bounds.due("names", x.named(Check.letters("g")), 6);
        Bounds.due("the seed", x.chance(-1, 60, 1), x.chance(42, 60, 1));
        Bounds.due("the tape's own bytes", x.text(7), 1);
    }

    private static void asking() {
        Bounds.says(TERMS, "What is asked changes nothing.");
        for (int a = -1; a <= 7; a++) {
            int first = a;
            asksOfOne(first);
            for (int b = -1; b <= 7; b += 2) {
                asksOfTwo(first, b);
            }
        }
        TownForest x = Bounds.lived();
        x.potential();
        for (int k = -1; k <= 25; k++) {
            x.parts(k);
            x.leastFor(k);
            x.seen(k);
            x.fault(k);
            x.count(k);
            x.named(k << 25);
        }
        Bounds.alike("all of the rest", x, Bounds.lived());
        asksInTurn();
    }

    /** What was asked of a wide tree must not show in what is asked of a small one. */
    private static void asksInTurn() {
        TownForest x = Bounds.lived();
        TownForest wide = Bounds.lived();
        x.shed(6);
        wide.shed(6);
        int[][] asked = {{5, 6}, {6, 5}, {0, 5}, {4, 6}, {6, 2}};
        for (int[] pair : asked) {
            for (int what = 0; what < 3; what++) {
                wide.widest(4, what);
                wide.joint(4, 5, what);
                wide.order(4, 4);
                wide.far(0, 4);
                TownForest fresh = Bounds.lived();
                fresh.shed(6);
                Bounds.due("joint", wide.joint(pair[0], pair[1], what), fresh.joint(pair[0], pair[1], what));
                Bounds.due("widest", wide.widest(pair[0], what), fresh.widest(pair[0], what));
                Bounds.due("order", wide.order(pair[0], what), fresh.order(pair[0], what));
                Bounds.due("far", wide.far(pair[0], pair[1]), fresh.far(pair[0], pair[1]));
                Bounds.due("along", wide.along(pair[0], pair[1], what), fresh.along(pair[0], pair[1], what));
            }
        }
        Bounds.due("two alone are 1 apart", wide.joint(5, 6, 0), 1);
        Bounds.alike("asked in turn", wide, x);
    }

    private static void asksOfOne(int town) {
        TownForest x = Bounds.lived();
        for (int what = -1; what <= 10; what++) {
            Check.town(x, town, what);
            x.chain(town, what);
            x.above(town, what);
            x.order(town, what);
            x.widest(town, what);
            x.chance(town, what, 0);
        }
        x.place(town);
        x.tightest(town);
        x.heavy(town);
        x.would(town);
        x.midst(town);
        x.dearest(town);
        Bounds.alike("all that is asked of " + town, x, Bounds.lived());
    }

    private static void asksOfTwo(int a, int b) {
        TownForest x = Bounds.lived();
        x.together(a, b);
        x.far(a, b);
        x.meets(a, b);
        x.room(a, b);
        for (int what = -1; what <= 5; what++) {
            x.along(a, b, what);
            x.joint(a, b, what);
        }
        Bounds.alike("all that is asked of " + a + " and " + b, x, Bounds.lived());
    }

    private static void severalAnswers() {
        Bounds.says(TERMS, "Of several answers that hold NONE goes first, then -2, then -3");
        Bounds.changesNothing("link: length, together", Bounds::lived, x -> x.link(0, 1, 0, 1), -1);
        Bounds.changesNothing("link: cap, itself", Bounds::lived, x -> x.link(0, 0, 1, 10000), -1);
        Bounds.changesNothing("cut: no such town, itself", Bounds::lived, x -> x.cut(7, 7), -1);
        Bounds.changesNothing("raise: d, apart", Bounds::lived, x -> x.raise(0, 5, 10000), -1);
        Bounds.changesNothing("raise: d, too long", Bounds::lived, x -> x.raise(0, 4, 10000), -1);
        Bounds.changesNothing("raise: apart, d that is too much for all", Bounds::lived, x -> x.raise(0, 5, 9999), -2);
        Bounds.changesNothing("send: n, apart", Bounds::lived, x -> x.send(0, 5, -10000), -1);
        Bounds.changesNothing("send: n, too much", Bounds::lived, x -> x.send(0, 4, 10000), -1);
        Bounds.changesNothing("send: apart, n that is too much for all", Bounds::lived, x -> x.send(0, 5, -9999), -2);
        Bounds.changesNothing("exchange: length, a is b", Bounds::lived, x -> x.exchange(0, 0, 10000, 1), -1);
        Bounds.changesNothing("exchange: cap, not longer", Bounds::lived, x -> x.exchange(0, 4, 9999, 0), -1);
        Bounds.changesNothing("along: k, apart", Bounds::lived, x -> x.along(0, 5, -1), -1);
        Bounds.changesNothing("joint: what, together", Bounds::lived, x -> x.joint(0, 1, 3), -1);
        Bounds.changesNothing("room: no such town, a is b", Bounds::lived, x -> x.room(7, 7), -1);
        Bounds.changesNothing("seen: what, nothing seen", Bounds::base, x -> x.seen(9), -1);
        Bounds.changesNothing("seen: nothing seen, no links", Bounds::alone, x -> x.seen(1), -3);
        Bounds.says(TERMS, "A call that is refused changes nothing.");
        Bounds.changesNothing("undo() of nothing", UndoBounds::kept, TownForest::undo, -1);
        Bounds.changesNothing("back() to nothing", Bounds::two, TownForest::back, -1);
        TownForest x = Bounds.base();
        x.touch(4);
        Bounds.due("back() to nothing", x.back(), -1);
        Bounds.due("what can be undone stays", x.count(5), 1);
        Bounds.due("it is undone", x.undo(), 0);
    }

    // ---- promises 41 to 43

    private static void undo() {
        Bounds.says(41, "how many can be undone yet");
        TownForest x = Bounds.lived();
        Bounds.due("two yet", x.undo(), 2);
        Bounds.due("value", x.town(0, 0), 1);
        Bounds.due("one yet", x.undo(), 1);
        Bounds.due("preferred", x.town(3, 2), 4);
        Bounds.due("none yet", x.undo(), 0);
        Bounds.due("root", x.town(0, 3), 0);
        Bounds.due("switches", x.count(4), 0);
        Bounds.says(41, "NONE: none could.");
        Bounds.due("all are undone", x.undo(), -1);
        Bounds.due("again", x.undo(), -1);
        Bounds.due("new", new TownForest().undo(), -1);
        Bounds.due("behind a text", Bounds.base().undo(), -1);
        TownForest y = Bounds.lived();
        y.back();
        Bounds.due("behind back()", y.undo(), -1);
        TownForest z = Bounds.alone();
        z.touch(1);
        z.feed(0, 0, 0, 0, 0);
        z.text(20);
        z.keep();
        z.count(0);
        z.chance(1, 60, 1);
        Bounds.due("behind what is no deed", z.undo(), -1);
    }

    private static void keep() {
        Bounds.says(42, "An IMAGE is kept (in place of one ahead)");
        TownForest x = Bounds.base();
        x.keep();
        x.value(0, 500);
        x.shed(6);
        Bounds.due("keep()", x.keep(), 3);
        x.link(6, 0, 1, 1);
        Bounds.due("the later one", x.back(), 3);
        Bounds.due("value", x.town(0, 0), 500);
        Bounds.says(42, "how many TREES.");
        Bounds.changesImageAlone("no towns", Bounds::empty, 0);
        Bounds.changesImageAlone("one", Bounds::alone, 1);
        Bounds.changesImageAlone("one row", Bounds::longest, 1);
        Bounds.changesImageAlone("24", Bounds::full, 24);
        Bounds.changesImageAlone("two", Bounds::lived, 2);
    }

    private static void back() {
        Bounds.says(43, "All is as in the IMAGE (it stays");
        TownForest x = kept();
        int[] towns = Bounds.towns(x);
        for (int i = 0; i < 3; i++) {
            x.reroot(4);
            x.shed(0);
            Bounds.due("back() " + i, x.back(), 2);
            Bounds.dueRow("towns " + i, Bounds.towns(x), towns);
        }
        Bounds.due("at once again", x.back(), 2);
        Bounds.says(43, "nothing to undo then)");
        x.touch(4);
        x.touch(2);
        x.back();
        Bounds.due("count(5)", x.count(5), 0);
        Bounds.due("undo()", x.undo(), -1);
        x.value(0, 9);
        Bounds.due("count(5)", x.count(5), 1);
        Bounds.due("undo()", x.undo(), 0);
        Bounds.due("value", x.town(0, 0), 1);
        Bounds.says(43, "how many TREES");
        TownForest none = new TownForest();
        none.keep();
        Bounds.due("no towns", none.back(), 0);
        TownForest full = Bounds.full();
        full.keep();
        full.link(0, 23, 1, 1);
        Bounds.due("24", full.back(), 24);
        Bounds.says(43, "NONE: there is none.");
        Bounds.due("new", new TownForest().back(), -1);
        Bounds.due("behind a text", Bounds.base().back(), -1);
        x.text(0);
        Bounds.due("behind another text", x.back(), -1);
        none.text(0);
        Bounds.due("behind an empty text", none.back(), -1);
    }

    // ---- promise 44

    private static void count() {
        Bounds.says(44, "0 TOWNS, 1 LINKS, 2 TREES, 3 CHAINS");
        counts("no towns", Bounds.empty(), 0, 0, 0, 0, 0, 0, 0);
        counts("alone", Bounds.alone(), 1, 0, 1, 1, 0, 0, 0);
        counts("24 apart", Bounds.full(), 24, 0, 24, 24, 0, 0, 0);
        counts("24 in a row", Bounds.longest(), 24, 23, 1, 2, 0, 0, 0);
        counts("24 in a row, nothing preferred", DeedBounds.longestLoose(), 24, 23, 1, 24, 0, 20, 0);
        counts("lived", Bounds.lived(), 7, 5, 2, 5, 3, 3, 20);
        Bounds.says(44, "4 SWITCHES by call since the TEXT (undone with what took them)");
        TownForest x = DeedBounds.longestLoose();
        x.touch(23);
        Bounds.due("taken", x.count(4), 23);
        x.undo();
        Bounds.due("undone", x.count(4), 0);
        x.walk(23, 0);
        x.keep();
        x.touch(23);
        x.touch(0);
        Bounds.due("one more", x.count(4), 24);
        x.back();
        Bounds.due("as in the image", x.count(4), 23);
        x.text(0);
        Bounds.due("behind a text", x.count(4), 0);
        Bounds.says(44, "5 what can be undone, 6 bytes of the TAPE.");
        for (int i = 0; i < 36; i++) {
            x.feed(0, 0, 0, 0, 0);
        }
        Bounds.due("most bytes", x.count(6), 700);
        x.text(0);
        Bounds.due("no bytes", x.count(6), 0);
        TownForest y = Bounds.alone();
        deeds(y, 1, 30);
        Bounds.due("most that can be undone", y.count(5), 20);
        y.undo();
        Bounds.due("one less", y.count(5), 19);
        Bounds.says(44, "NONE for another what.");
        for (int what : Bounds.outside(7)) {
            Bounds.changesNothing("count(" + what + ")", Bounds::lived, z -> z.count(what), -1);
            Bounds.changesNothing("no towns: count(" + what + ")", Bounds::empty, z -> z.count(what), -1);
        }
    }

    private static void counts(String which, TownForest x, int... due) {
        int[] got = new int[7];
        for (int what = 0; what < 7; what++) {
            got[what] = x.count(what);
        }
        Bounds.dueRow(which, got, due);
    }

    /** "An object is used for at most 512 calls": the last of them is answered as the first. */
    private static void lastCall() {
        TownForest x = Bounds.alone();
        // Two calls told the text.
        for (int call = 3; call <= 511; call++) {
            x.value(0, call);
        }
        Bounds.due("the 512th call", x.value(0, 0), 511);
    }
}
