/** Boundary cases of what is asked: the rest of ==== 2, ==== 3, promises 20 to 40. */
final class AskBounds {
    private static final int TERMS = Bounds.TERMS;
    private static final int LOWEST = Bounds.LOWEST;
    private static final int HIGHEST = Bounds.HIGHEST;

    private AskBounds() {
    }

    static void run() {
        chainsOfTowns();
        sizesAndDepths();
        heavyAndPotential();
        orders();
        farAndMidst();
        town();
        townThrows();
        chain();
        above();
        along();
        together();
        far();
        meets();
        room();
        order();
        place();
        joint();
        jointRefused();
        tightest();
        heavy();
        potential();
        would();
        widest();
        midst();
        parts();
        dearest();
        leastFor();
    }

    private static TownForest farthest() {
        TownForest x = Bounds.longest();
        x.raise(0, 23, 9996);
        return x;
    }

    /** a(0), b(1) apart. */
    static TownForest twoApart() {
        return Bounds.told("town a 5;town b 7;");
    }

    /** a(0) over all others, length and cap 1. */
    private static TownForest starOf24() {
        StringBuilder text = new StringBuilder(Bounds.manyTowns(24));
        for (int i = 1; i < 24; i++) {
            text.append("link ").append((char) ('a' + i)).append(" a 1 1;");
        }
        return Bounds.told(text.toString());
    }

    private static int[] three(int first, int second, int third) {
        return new int[] {first, second, third};
    }

    private static void asks(String what, Bounds.Maker maker, Bounds.Call call, int want) {
        Bounds.changesNothing(what, maker, call, want);
    }

    // ---- ==== 2, ==== 3

    private static void chainsOfTowns() {
        Bounds.says(TERMS, "A CHAIN: TOWNS, each but the first PREFERRED by the one ahead, the first by none, "
                + "the last without PREFERRED: its HEAD, its TAIL.");
        TownForest x = Bounds.base();
        Bounds.due("head", x.chain(1, 0), 0);
        Bounds.due("tail", x.chain(1, 1), 3);
        Bounds.due("a town alone in one: head", x.chain(2, 0), 2);
        Bounds.due("a town alone in one: tail", x.chain(2, 1), 2);
        Bounds.due("a root in none but its own", x.chain(5, 0) * 10 + x.chain(5, 1), 55);
        Bounds.due("not preferred by its parent", x.chain(6, 0), 6);
        Bounds.due("chains", x.count(3), 5);
        x.touch(4);
        Bounds.due("a longer one", x.chain(0, 1), 4);
        Bounds.due("chains", x.count(3), 4);
    }

    private static void sizesAndDepths() {
        TownForest x = Bounds.longest();
        Bounds.says(TERMS, "SIZE of a TOWN: how many hang beneath it, and itself");
        Bounds.due("least", x.town(23, 5), 1);
        Bounds.due("most", x.town(0, 5), 24);
        Bounds.says(TERMS, "UNDER: VALUES of these together.");
        TownForest most = Bounds.told("town a 9999;town b 9999;town c -9999;link b a 1 1;link c b 1 1;");
        Bounds.dueRow("under", Check.facts(most, 6), 9999, 0, -9999);
        Bounds.due("of 24", x.town(0, 6), 48);
        Bounds.due("of one", x.town(23, 6), 2);
        Bounds.says(TERMS, "DEPTH: how many LINKS from the ROOT.");
        Bounds.due("the root", x.town(0, 4), 0);
        Bounds.due("the deepest", x.town(23, 4), 23);
    }

    private static void heavyAndPotential() {
        Bounds.says(TERMS, "HEAVY: the CHILD whose SIZE is more than half of its PARENT's.");
        Bounds.due("one of two is half", Bounds.two().heavy(0), -2);
        Bounds.due("two of three", Bounds.told("town a 0;town b 0;town c 0;link b a 1 1;link c b 1 1;").heavy(0), 1);
        Bounds.due("two of four is half", Bounds.base().heavy(1), -2);
        Bounds.due("three of four", Bounds.row().heavy(0), 1);
        Bounds.due("one of four", Bounds.star().heavy(0), -2);
        Bounds.says(TERMS, "POTENTIAL: how many TOWNS have a HEAVY CHILD that isn't PREFERRED by them.");
        TownForest x = Bounds.row();
        Bounds.due("preferred", x.potential(), 0);
        x.touch(1);
        Bounds.due("none preferred", x.potential(), 1);
        x.touch(0);
        Bounds.due("none preferred by two", x.potential(), 2);
        x.settle(0);
        Bounds.due("settled", x.potential(), 0);
        x.touch(3);
        Bounds.due("one that is preferred and not heavy", x.potential(), 0);
        TownForest y = Bounds.told("town a 0;town b 0;town c 0;town d 0;link b a 1 1;link c a 1 1;link d c 1 1;touch b;");
        Bounds.due("half is not heavy", y.potential(), 0);
    }

    private static void orders() {
        Bounds.says(TERMS, "ORDER of a TREE: the ROOT");
        Bounds.due("the root", Bounds.base().order(4, 0), 0);
        Bounds.due("alone", Bounds.alone().order(0, 0), 0);
        Bounds.says(TERMS, "of each TOWN, right behind it, all that hangs beneath its PREFERRED, that first");
        TownForest x = Bounds.told("town a 0;town b 0;town c 0;town d 0;town e 0;town f 0;"
                + "link b a 1 1;link c a 1 1;link d a 1 1;link e d 1 1;link f d 1 1;");
        orderIs(x, 0, 3, 4, 5, 1, 2);
        x.touch(5);
        orderIs(x, 0, 3, 5, 4, 1, 2);
        x.touch(2);
        orderIs(x, 0, 2, 1, 3, 5, 4);
        Bounds.says(TERMS, "then its other CHILDREN by numbers, each with all that hangs beneath.");
        x.touch(0);
        orderIs(x, 0, 1, 2, 3, 5, 4);
        x.touch(3);
        x.touch(0);
        orderIs(x, 0, 1, 2, 3, 4, 5);
        x.reroot(5);
        orderIs(x, 5, 3, 0, 1, 2, 4);
        x.touch(3);
        orderIs(x, 5, 3, 0, 1, 2, 4);
        x.touch(4);
        orderIs(x, 5, 3, 4, 0, 1, 2);
    }

    private static void orderIs(TownForest x, int... due) {
        for (int k = 0; k < due.length; k++) {
            Bounds.due("order " + k, x.order(1, k), due[k]);
            Bounds.due("place of " + due[k], x.place(due[k]), k);
        }
        Bounds.due("no more", x.order(1, due.length), -2);
    }

    private static void farAndMidst() {
        Bounds.says(TERMS, "FAR: LENGTHS of a WAY together.");
        Bounds.due("no link", Bounds.two().far(1, 1), 0);
        Bounds.due("one link", Bounds.two().far(1, 0), 4);
        Bounds.due("farthest", farthest().far(23, 0), 23 * 9999);
        Bounds.says(TERMS, "IN THE MIDST of a TREE: the TOWN, without which the greatest of the parts that are left "
                + "has the fewest TOWNS, the first by numbers.");
        Bounds.due("alone", Bounds.alone().midst(0), 0);
        Bounds.due("of two", Bounds.two().midst(1), 0);
        Bounds.due("of four in a row", Bounds.row().midst(3), 1);
        Bounds.due("of a star", Bounds.star().midst(3), 0);
        Bounds.due("of 24 in a row", Bounds.longest().midst(23), 11);
        TownForest x = Bounds.two();
        x.reroot(1);
        Bounds.due("of two, whichever the root", x.midst(1), 0);
    }

    // ---- promise 20

    private static void town() {
        Bounds.says(20, "Of a TOWN, what 0 VALUE, 1 PARENT (-2: a ROOT), 2 PREFERRED (-2: none)");
        TownForest x = Bounds.base();
        Bounds.dueRow("value", Check.facts(x, 0), 1, 2, 3, 4, 5, 6, 7);
        Bounds.dueRow("parent", Check.facts(x, 1), -2, 0, 1, 1, 3, -2, 5);
        Bounds.dueRow("preferred", Check.facts(x, 2), 1, 3, -2, -2, -2, -2, -2);
        Bounds.says(20, "3 the ROOT of its TREE, 4 DEPTH, 5 SIZE, 6 UNDER");
        Bounds.dueRow("root", Check.facts(x, 3), 0, 0, 0, 0, 0, 5, 5);
        Bounds.dueRow("depth", Check.facts(x, 4), 0, 1, 2, 2, 3, 0, 1);
        Bounds.dueRow("size", Check.facts(x, 5), 5, 4, 1, 2, 1, 2, 1);
        Bounds.dueRow("under", Check.facts(x, 6), 15, 14, 3, 9, 5, 13, 7);
        Bounds.says(20, "7 LENGTH, 8 CAP of the LINK to its PARENT (-2: a ROOT), 9 how many CHILDREN.");
        Bounds.dueRow("length", Check.facts(x, 7), -2, 10, 20, 5, 7, -2, 3);
        Bounds.dueRow("cap", Check.facts(x, 8), -2, 5, 4, 9, 7, -2, 8);
        Bounds.dueRow("children", Check.facts(x, 9), 1, 2, 0, 1, 0, 1, 0);
        Bounds.dueRow("children, town 0 one of them", Check.facts(Bounds.lived(), 9), 0, 2, 1, 1, 0, 1, 0);
        Bounds.due("most children", starOf24().town(0, 9), 23);
        int[] alone = {5, -2, -2, 0, 0, 1, 5, -2, -2, 0};
        TownForest y = Bounds.two();
        y.send(0, 1, 6);
        Bounds.due("a cap of 0", y.town(1, 8), 0);
        y.cut(0, 1);
        for (int what = 0; what < 10; what++) {
            int asked = what;
            asks("alone, what " + what, Bounds::alone, z -> z.town(0, asked), alone[what]);
            Bounds.due("cut off, what " + what, y.town(0, what), alone[what]);
        }
    }

    private static void townThrows() {
        Bounds.says(20, "IndexOutOfBoundsException: no such TOWN.");
        for (int what = 0; what < 10; what++) {
            int asked = what;
            Bounds.noSuchTown("town, what " + what + ",", (x, t) -> Check.town(x, t, asked), Bounds.NO_TOWN);
        }
        Bounds.says(20, "NoSuchElementException: no such what.");
        for (int what : Bounds.outside(10)) {
            for (int t = 0; t < 7; t++) {
                int asked = t;
                asks("town " + t + ", what " + what, Bounds::lived, x -> Check.town(x, asked, what), Bounds.NO_WHAT);
            }
            asks("alone, what " + what, Bounds::alone, x -> Check.town(x, 0, what), Bounds.NO_WHAT);
        }
        Bounds.says(TERMS, "IndexOutOfBoundsException ahead of NoSuchElementException.");
        for (int what : Bounds.outside(10)) {
            Bounds.noSuchTown("town, what " + what + ",", (x, t) -> Check.town(x, t, what), Bounds.NO_TOWN);
        }
    }

    // ---- promises 21 to 23

    private static void chain() {
        Bounds.says(21, "Of the CHAIN of a TOWN, what 0 its HEAD, 1 its TAIL, 2 TOWNS, 3 which one in it this is "
                + "(the HEAD 0), 4 LENGTHS of it together");
        int[][] due = {{0, 3, 3, 0, 15}, {0, 3, 3, 1, 15}, {2, 2, 1, 0, 0}, {0, 3, 3, 2, 15}, {4, 4, 1, 0, 0},
            {5, 5, 1, 0, 0}, {6, 6, 1, 0, 0}};
        for (int t = 0; t < 7; t++) {
            for (int what = 0; what < 5; what++) {
                int town = t;
                int asked = what;
                asks("chain(" + t + ", " + what + ")", Bounds::base, x -> x.chain(town, asked), due[t][what]);
            }
        }
        TownForest x = farthest();
        Bounds.due("the longest: towns", x.chain(23, 2), 24);
        Bounds.due("the longest: which", x.chain(23, 3), 23);
        Bounds.due("the longest: lengths", x.chain(23, 4), 23 * 9999);
        Bounds.says(21, "NONE: no such ones.");
        for (int what = 0; what < 5; what++) {
            int asked = what;
            Bounds.noSuchTown("chain, what " + what + ",", (y, t) -> y.chain(t, asked), -1);
        }
        for (int what : Bounds.outside(5)) {
            asks("chain(0, " + what + ")", Bounds::lived, y -> y.chain(0, what), -1);
            asks("chain(7, " + what + ")", Bounds::lived, y -> y.chain(7, what), -1);
        }
    }

    private static void above() {
        Bounds.says(22, "The k-th TOWN above one (0: itself)");
        asks("itself", Bounds::base, x -> x.above(4, 0), 4);
        asks("a root itself", Bounds::base, x -> x.above(0, 0), 0);
        asks("the parent", Bounds::base, x -> x.above(4, 1), 3);
        asks("the root", Bounds::base, x -> x.above(4, 3), 0);
        asks("the highest", Bounds::longest, x -> x.above(23, 23), 0);
        Bounds.says(22, "-2: there is none");
        asks("above the root", Bounds::base, x -> x.above(4, 4), -2);
        asks("above a root", Bounds::base, x -> x.above(0, 1), -2);
        asks("above the highest", Bounds::longest, x -> x.above(23, 24), -2);
        asks("the most", Bounds::base, x -> x.above(4, HIGHEST), -2);
        asks("alone", Bounds::alone, x -> x.above(0, 1), -2);
        Bounds.says(22, "NONE: no such ones.");
        Bounds.noSuchTown("above", (x, t) -> x.above(t, 0), -1);
        Bounds.noSuchTown("above by 5", (x, t) -> x.above(t, 5), -1);
        asks("k -1", Bounds::lived, x -> x.above(4, -1), -1);
        asks("k lowest", Bounds::lived, x -> x.above(4, LOWEST), -1);
        asks("k -1 of a root", Bounds::lived, x -> x.above(2, -1), -1);
    }

    private static void along() {
        Bounds.says(23, "The k-th TOWN (0 on) of the WAY from a to b");
        int[] due = {4, 3, 1, 2};
        for (int k = 0; k < 4; k++) {
            int asked = k;
            asks("along(4, 2, " + k + ")", Bounds::base, x -> x.along(4, 2, asked), due[k]);
            asks("along(2, 4, " + k + ")", Bounds::base, x -> x.along(2, 4, asked), due[3 - k]);
        }
        asks("itself", Bounds::base, x -> x.along(4, 4, 0), 4);
        asks("alone", Bounds::alone, x -> x.along(0, 0, 0), 0);
        asks("up alone", Bounds::longest, x -> x.along(23, 0, 23), 0);
        asks("down alone", Bounds::longest, x -> x.along(0, 23, 23), 23);
        Bounds.says(23, "-2: it has not so many");
        asks("one too many", Bounds::base, x -> x.along(4, 2, 4), -2);
        asks("itself, one too many", Bounds::base, x -> x.along(4, 4, 1), -2);
        asks("the longest, one too many", Bounds::longest, x -> x.along(23, 0, 24), -2);
        asks("the most", Bounds::base, x -> x.along(4, 2, HIGHEST), -2);
        Bounds.says(23, "they don't hang together");
        asks("apart", Bounds::base, x -> x.along(4, 5, 0), -2);
        asks("two roots", Bounds::base, x -> x.along(0, 5, 0), -2);
        asks("24 apart", Bounds::full, x -> x.along(0, 23, 0), -2);
        Bounds.says(23, "NONE: no such ones.");
        Bounds.noSuchPair("along", (x, a, b) -> x.along(a, b, 0), -1);
        asks("k -1", Bounds::lived, x -> x.along(4, 2, -1), -1);
        asks("k lowest", Bounds::lived, x -> x.along(4, 2, LOWEST), -1);
        asks("apart, k -1", Bounds::lived, x -> x.along(4, 5, -1), -1);
    }

    // ---- promises 24 to 27

    private static void together() {
        Bounds.says(24, "Whether two TOWNS hang together (1, 0)");
        asks("linked", Bounds::base, x -> x.together(0, 1), 1);
        asks("by others", Bounds::base, x -> x.together(4, 2), 1);
        asks("itself", Bounds::base, x -> x.together(6, 6), 1);
        asks("apart", Bounds::base, x -> x.together(4, 6), 0);
        asks("two roots", Bounds::base, x -> x.together(0, 5), 0);
        asks("alone", Bounds::alone, x -> x.together(0, 0), 1);
        asks("24 in a row", Bounds::longest, x -> x.together(0, 23), 1);
        asks("24 apart", Bounds::full, x -> x.together(0, 23), 0);
        Bounds.says(24, "NONE: no such ones.");
        Bounds.noSuchPair("together", TownForest::together, -1);
    }

    private static void far() {
        Bounds.says(25, "FAR of two TOWNS");
        asks("itself", Bounds::base, x -> x.far(4, 4), 0);
        asks("up", Bounds::base, x -> x.far(4, 0), 22);
        asks("down", Bounds::base, x -> x.far(0, 4), 22);
        asks("over", Bounds::base, x -> x.far(2, 4), 32);
        asks("farthest", AskBounds::farthest, x -> x.far(23, 0), 229977);
        Bounds.says(25, "-2: they don't hang together");
        asks("apart", Bounds::base, x -> x.far(4, 6), -2);
        asks("two roots", Bounds::base, x -> x.far(0, 5), -2);
        Bounds.says(25, "NONE: no such ones.");
        Bounds.noSuchPair("far", TownForest::far, -1);
    }

    private static void meets() {
        Bounds.says(26, "MEET of two TOWNS (nothing is TOUCHED)");
        asks("itself", Bounds::base, x -> x.meets(4, 4), 4);
        asks("over", Bounds::base, x -> x.meets(4, 2), 1);
        asks("above", Bounds::base, x -> x.meets(0, 2), 0);
        asks("the deepest", Bounds::longest, x -> x.meets(23, 0), 0);
        asks("the deepest with the one above", Bounds::longest, x -> x.meets(23, 22), 22);
        Bounds.says(26, "-2: they don't hang together");
        asks("apart", Bounds::base, x -> x.meets(4, 6), -2);
        asks("two roots", Bounds::base, x -> x.meets(0, 5), -2);
        Bounds.says(26, "NONE: no such ones.");
        Bounds.noSuchPair("meets", TownForest::meets, -1);
    }

    private static void room() {
        Bounds.says(27, "The least CAP on the WAY from a to b");
        asks("one link", Bounds::base, x -> x.room(0, 1), 5);
        asks("up", Bounds::base, x -> x.room(4, 0), 5);
        asks("over", Bounds::base, x -> x.room(4, 2), 4);
        asks("the first of them", Bounds::base, x -> x.room(2, 3), 4);
        asks("most", () -> Bounds.told("town a 0;town b 0;link a b 1 9999;"), x -> x.room(0, 1), 9999);
        TownForest y = Bounds.two();
        y.send(0, 1, 6);
        Bounds.due("0", y.room(0, 1), 0);
        Bounds.says(27, "-2: they don't hang together, a is b");
        asks("apart", Bounds::base, x -> x.room(4, 6), -2);
        asks("two roots", Bounds::base, x -> x.room(0, 5), -2);
        asks("a is b", Bounds::base, x -> x.room(4, 4), -2);
        asks("alone", Bounds::alone, x -> x.room(0, 0), -2);
        Bounds.says(27, "NONE: no such ones.");
        Bounds.noSuchPair("room", TownForest::room, -1);
    }

    // ---- promises 28 to 31

    private static void order() {
        Bounds.says(28, "The k-th TOWN (0 on) in the ORDER of the TREE of a TOWN");
        int[] due = {0, 1, 3, 4, 2};
        for (int k = 0; k < 5; k++) {
            int asked = k;
            asks("order(2, " + k + ")", Bounds::base, x -> x.order(2, asked), due[k]);
        }
        asks("the other tree", Bounds::base, x -> x.order(6, 1), 6);
        asks("the last of 24", Bounds::longest, x -> x.order(0, 23), 23);
        Bounds.says(28, "-2: there are not so many");
        asks("one too many", Bounds::base, x -> x.order(2, 5), -2);
        asks("one too many of two", Bounds::base, x -> x.order(6, 2), -2);
        asks("alone", Bounds::alone, x -> x.order(0, 1), -2);
        asks("one too many of 24", Bounds::longest, x -> x.order(0, 24), -2);
        asks("the most", Bounds::base, x -> x.order(2, HIGHEST), -2);
        Bounds.says(28, "NONE: no such ones.");
        Bounds.noSuchTown("order", (x, t) -> x.order(t, 0), -1);
        asks("k -1", Bounds::lived, x -> x.order(2, -1), -1);
        asks("k lowest", Bounds::lived, x -> x.order(2, LOWEST), -1);
    }

    private static void place() {
        Bounds.says(29, "Which one in that ORDER a TOWN is (the ROOT 0)");
        int[] due = {0, 1, 4, 2, 3, 0, 1};
        for (int t = 0; t < 7; t++) {
            int asked = t;
            asks("place(" + t + ")", Bounds::base, x -> x.place(asked), due[t]);
        }
        asks("alone", Bounds::alone, x -> x.place(0), 0);
        asks("the last of 24", Bounds::longest, x -> x.place(23), 23);
        Bounds.says(29, "NONE: no such TOWN.");
        Bounds.noSuchTown("place", TownForest::place, -1);
    }

    private static void joint() {
        Bounds.says(30, "The LINK of LENGTH 1 between a TOWN of the TREE of a and one of that of b by which the two that "
                + "are most FAR in both together would be least FAR: what 0 how FAR they would be, 1 the TOWN of a's, 2 of b's");
        TownForest alone = twoApart();
        Bounds.dueRow("two alone", three(alone.joint(1, 0, 0), alone.joint(1, 0, 1), alone.joint(1, 0, 2)), 1, 1, 0);
        TownForest x = Bounds.told("town a 0;town b 0;town c 0;town d 0;town e 0;link a b 2 1;link c d 5 1;link d e 5 1;");
        // From d it is 5 to c and e: 5 + 1 + 2 is less than the 10 from c to e.
        Bounds.dueRow("one's own is most", three(x.joint(0, 2, 0), x.joint(0, 2, 1), x.joint(0, 2, 2)), 10, 0, 3);
        Bounds.dueRow("the other way", three(x.joint(2, 0, 0), x.joint(2, 0, 1), x.joint(2, 0, 2)), 10, 3, 0);
        Bounds.says(30, "the first by that of a's, then b's");
        TownForest y = Bounds.told("town a 0;town b 0;town c 0;town d 0;link d b 3 1;link c a 3 1;");
        // Whichever ends: 3 + 1 + 3.
        Bounds.dueRow("all alike", three(y.joint(2, 3, 0), y.joint(2, 3, 1), y.joint(2, 3, 2)), 7, 0, 1);
        Bounds.dueRow("all alike", three(y.joint(3, 2, 0), y.joint(3, 2, 1), y.joint(3, 2, 2)), 7, 1, 0);
        asks("the last what", Bounds::base, z -> z.joint(0, 5, 2), 5);
        asks("the first what", Bounds::base, z -> z.joint(0, 5, 0), 32);
        TownForest most = farthest();
        most.cut(11, 12);
        Bounds.due("farthest", most.joint(0, 23, 0), 6 * 9999 + 1 + 6 * 9999);
        Bounds.due("farthest, of a's", most.joint(0, 23, 1), 5);
        Bounds.due("farthest, of b's", most.joint(0, 23, 2), 17);
    }

    private static void jointRefused() {
        Bounds.says(30, "-2: they hang together");
        for (int what = 0; what < 3; what++) {
            int asked = what;
            asks("linked", Bounds::lived, x -> x.joint(0, 1, asked), -2);
            asks("by others", Bounds::lived, x -> x.joint(0, 4, asked), -2);
            asks("itself", Bounds::lived, x -> x.joint(5, 5, asked), -2);
            asks("alone", Bounds::alone, x -> x.joint(0, 0, asked), -2);
        }
        Bounds.says(30, "NONE: no such ones.");
        Bounds.noSuchPair("joint", (x, a, b) -> x.joint(a, b, 0), -1);
        for (int what : Bounds.outside(3)) {
            asks("joint(0, 5, " + what + ")", Bounds::lived, x -> x.joint(0, 5, what), -1);
            asks("joint(0, 1, " + what + ")", Bounds::lived, x -> x.joint(0, 1, what), -1);
        }
    }

    private static void tightest() {
        Bounds.says(31, "The LINK of the TREE of a TOWN of the least CAP, the first by the number of its lower end: that TOWN");
        asks("the least", Bounds::base, x -> x.tightest(4), 2);
        asks("one link", Bounds::base, x -> x.tightest(5), 6);
        asks("of three alike", Bounds::row, x -> x.tightest(3), 1);
        TownForest row = Bounds.row();
        row.reroot(3);
        Bounds.due("the lower end", row.tightest(3), 0);
        row.send(2, 3, 1);
        Bounds.due("by one less", row.tightest(0), 3);
        row.send(2, 3, 5);
        Bounds.due("0", row.tightest(0), 3);
        Bounds.says(31, "-2: there is none");
        asks("alone", Bounds::alone, x -> x.tightest(0), -2);
        asks("24 apart", Bounds::full, x -> x.tightest(23), -2);
        Bounds.says(31, "NONE: no such TOWN.");
        Bounds.noSuchTown("tightest", TownForest::tightest, -1);
    }

    // ---- promises 32 to 36

    private static void heavy() {
        Bounds.says(32, "The HEAVY CHILD of a TOWN");
        asks("four of five", Bounds::base, x -> x.heavy(0), 1);
        asks("23 of 24", Bounds::longest, x -> x.heavy(0), 1);
        asks("two of three", Bounds::longest, x -> x.heavy(21), 22);
        Bounds.says(32, "-2: it has none");
        asks("half", Bounds::base, x -> x.heavy(1), -2);
        asks("one of two", Bounds::longest, x -> x.heavy(22), -2);
        asks("no children", Bounds::longest, x -> x.heavy(23), -2);
        asks("23 of one each", AskBounds::starOf24, x -> x.heavy(0), -2);
        asks("alone", Bounds::alone, x -> x.heavy(0), -2);
        Bounds.says(32, "NONE: no such TOWN.");
        Bounds.noSuchTown("heavy", TownForest::heavy, -1);
    }

    private static void potential() {
        Bounds.says(33, "POTENTIAL.");
        asks("no towns", Bounds::empty, TownForest::potential, 0);
        asks("alone", Bounds::alone, TownForest::potential, 0);
        asks("24 apart", Bounds::full, TownForest::potential, 0);
        asks("a row", Bounds::longest, TownForest::potential, 0);
        asks("most", DeedBounds::longestLoose, TownForest::potential, 22);
        asks("two trees", Bounds::base, TownForest::potential, 0);
    }

    private static void would() {
        Bounds.says(34, "How many SWITCHES touching a TOWN would take");
        asks("a root", Bounds::base, x -> x.would(0), 0);
        asks("preferred", Bounds::base, x -> x.would(3), 0);
        asks("none", Bounds::base, x -> x.would(4), 1);
        asks("another one", Bounds::base, x -> x.would(2), 1);
        asks("alone", Bounds::alone, x -> x.would(0), 0);
        asks("most", DeedBounds::longestLoose, x -> x.would(23), 23);
        for (int t = 0; t < 7; t++) {
            Bounds.due("as touch() took", Bounds.lived().would(t), Bounds.lived().touch(t));
        }
        Bounds.says(34, "NONE: no such TOWN.");
        Bounds.noSuchTown("would", TownForest::would, -1);
    }

    private static void widest() {
        Bounds.says(35, "Of the TREE of a TOWN the two TOWNS that are FAR from one another most, the first by the lesser "
                + "number, then the other one: what 0 how FAR, 1 the lesser one, 2 the other one");
        TownForest x = Bounds.base();
        Bounds.dueRow("of five", three(x.widest(0, 0), x.widest(0, 1), x.widest(0, 2)), 32, 2, 4);
        Bounds.dueRow("of two", three(x.widest(6, 0), x.widest(6, 1), x.widest(6, 2)), 3, 5, 6);
        TownForest star = Bounds.star();
        Bounds.dueRow("of several", three(star.widest(3, 0), star.widest(3, 1), star.widest(3, 2)), 8, 1, 2);
        TownForest far = farthest();
        Bounds.dueRow("most", three(far.widest(9, 0), far.widest(9, 1), far.widest(9, 2)), 229977, 0, 23);
        far.reroot(23);
        Bounds.due("the lesser one", far.widest(23, 1), 0);
        Bounds.says(35, "(of one TOWN alone 0, it, it)");
        for (int what = 0; what < 3; what++) {
            int asked = what;
            asks("alone", Bounds::full, y -> y.widest(23, asked), what == 0 ? 0 : 23);
            asks("of one alone", Bounds::alone, y -> y.widest(0, asked), 0);
        }
        Bounds.says(35, "NONE: no such ones.");
        for (int what = 0; what < 3; what++) {
            int asked = what;
            Bounds.noSuchTown("widest, what " + what + ",", (y, t) -> y.widest(t, asked), -1);
        }
        for (int what : Bounds.outside(3)) {
            asks("widest(0, " + what + ")", Bounds::lived, y -> y.widest(0, what), -1);
        }
    }

    private static void midst() {
        Bounds.says(36, "The TOWN IN THE MIDST of the TREE of a TOWN");
        asks("alone", Bounds::full, x -> x.midst(23), 23);
        asks("of two the first", Bounds::base, x -> x.midst(6), 5);
        asks("of five", Bounds::base, x -> x.midst(4), 1);
        asks("of 24 in a row", Bounds::longest, x -> x.midst(0), 11);
        Bounds.says(36, "NONE: no such TOWN.");
        Bounds.noSuchTown("midst", TownForest::midst, -1);
    }

    // ---- promises 37 to 39

    private static void parts() {
        Bounds.says(37, "How many TREES there were, if all LINKS longer than n 0 .. 9999 were gone");
        asks("0: all are gone", Bounds::base, x -> x.parts(0), 7);
        asks("as long as one", Bounds::base, x -> x.parts(3), 6);
        asks("by one longer", Bounds::base, x -> x.parts(4), 6);
        asks("by one shorter", Bounds::base, x -> x.parts(19), 3);
        asks("as long as the longest", Bounds::base, x -> x.parts(20), 2);
        asks("9999: none is gone", AskBounds::farthest, x -> x.parts(9999), 1);
        asks("9998: all are gone", AskBounds::farthest, x -> x.parts(9998), 24);
        asks("0: all are gone, of length 1 too", AskBounds::starOf24, x -> x.parts(0), 24);
        asks("1: none of length 1 is gone", AskBounds::starOf24, x -> x.parts(1), 1);
        asks("town 0 a lower end", Bounds::lived, x -> x.parts(10), 3);
        asks("no towns", Bounds::empty, x -> x.parts(0), 0);
        asks("no towns", Bounds::empty, x -> x.parts(9999), 0);
        asks("alone", Bounds::alone, x -> x.parts(0), 1);
        Bounds.says(37, "NONE: no such n.");
        for (int n : Bounds.outside(10000)) {
            asks("parts(" + n + ")", Bounds::lived, x -> x.parts(n), -1);
            asks("no towns: parts(" + n + ")", Bounds::empty, x -> x.parts(n), -1);
        }
    }

    private static void dearest() {
        Bounds.says(38, "The LINK of the TREE of a TOWN of the greatest LENGTH, the first by the number of its lower end: "
                + "that TOWN");
        asks("the greatest", Bounds::base, x -> x.dearest(4), 2);
        asks("one link", Bounds::base, x -> x.dearest(5), 6);
        asks("of three alike", Bounds::row, x -> x.dearest(3), 1);
        TownForest row = Bounds.row();
        row.reroot(3);
        Bounds.due("the lower end", row.dearest(3), 0);
        row.raise(2, 3, 1);
        Bounds.due("by one more", row.dearest(0), 3);
        row.raise(2, 3, 9994);
        Bounds.due("9999", row.dearest(0), 3);
        Bounds.says(38, "-2: there is none");
        asks("alone", Bounds::alone, x -> x.dearest(0), -2);
        asks("24 apart", Bounds::full, x -> x.dearest(23), -2);
        Bounds.says(38, "NONE: no such TOWN.");
        Bounds.noSuchTown("dearest", TownForest::dearest, -1);
    }

    private static void leastFor() {
        Bounds.says(39, "The least LENGTH 0 .. 9999 by which parts() of it is k or fewer, k 1 .. 24");
        int[] due = {-2, 20, 10, 7, 5, 3, 0};
        for (int k = 1; k <= 7; k++) {
            int asked = k;
            asks("leastFor(" + k + ")", Bounds::base, x -> x.leastFor(asked), due[k - 1]);
        }
        asks("more than there are", Bounds::base, x -> x.leastFor(8), 0);
        asks("the most", Bounds::base, x -> x.leastFor(24), 0);
        asks("24 towns, 24", Bounds::longest, x -> x.leastFor(24), 0);
        asks("24 towns, 23", Bounds::longest, x -> x.leastFor(23), 3);
        asks("24 towns, 1", AskBounds::farthest, x -> x.leastFor(1), 9999);
        asks("24 towns, length 1", AskBounds::starOf24, x -> x.leastFor(23), 1);
        asks("town 0 a lower end", Bounds::lived, x -> x.leastFor(3), 10);
        asks("no towns", Bounds::empty, x -> x.leastFor(1), 0);
        asks("alone", Bounds::alone, x -> x.leastFor(1), 0);
        Bounds.says(39, "-2: none");
        asks("two trees", Bounds::base, x -> x.leastFor(1), -2);
        asks("24 trees, 23", Bounds::full, x -> x.leastFor(23), -2);
        asks("24 trees, 24", Bounds::full, x -> x.leastFor(24), 0);
        Bounds.says(39, "NONE: no such k.");
        for (int k : new int[] {0, -1, LOWEST, 25, 26, HIGHEST}) {
            asks("leastFor(" + k + ")", Bounds::lived, x -> x.leastFor(k), -1);
            asks("no towns: leastFor(" + k + ")", Bounds::empty, x -> x.leastFor(k), -1);
        }
    }
}
