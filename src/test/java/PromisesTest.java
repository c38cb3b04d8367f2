/** Each promise of the document, by answers that were worked out by hand. */
public final class PromisesTest {
    /**
     * a(0) over b(1) over c(2), d(3) over e(4); f(5) over g(6).
     * Lengths b 10, c 20, d 5, e 7, g 3; caps 5, 4, 9, 7, 8; preferred: a b, b d.
     */
    private static final String BASE = "town a 1;town b 2;town c 3;town d 4;town e 5;town f 6;town g 7;"
            + "link b a 10 5;link c b 20 4;link d b 5 9;link e d 7 7;link g f 3 8;seed 42;";

    /** b(1) beneath a(0), c(2) beneath b(1), d(3) beneath c(2), all lengths 4, all caps 6. */
    private static final String ROW = "town a 0;town b 0;town c 0;town d 0;"
            + "link b a 4 6;link c b 4 6;link d c 4 6;";

    private PromisesTest() {
    }

    public static void main(String[] args) {
        newObject();
        feeding();
        texts();
        faults();
        faultsOfTheTokens();
        faultsAreTheFirst();
        names();
        touching();
        rerooting();
        linking();
        cutting();
        walking();
        meeting();
        raising();
        cuttingTheDearest();
        sending();
        settling();
        exchanging();
        shedding();
        values();
        towns();
        chains();
        upAndAlong();
        pairs();
        orders();
        joints();
        extremes();
        heavyOnes();
        widestOnes();
        midstOnes();
        fallingApart();
        chances();
        undoing();
        images();
        counts();
        longestRow();
        Check.end("PromisesTest");
    }

    private static TownForest base() {
        return told(BASE);
    }

    private static TownForest told(String text) {
        TownForest x = new TownForest();
        int lines = text.length() - text.replace(";", "").length();
        Check.due("text " + text, Check.tell(x, text), lines);
        return x;
    }

    private static void fault(String text, int fault, int place) {
        TownForest x = new TownForest();
        Check.due("text " + text, Check.tell(x, text), -1);
        Check.due("fault(0) of " + text, x.fault(0), fault);
        Check.due("fault(1) of " + text, x.fault(1), place);
        Check.due("count(0) of " + text, x.count(0), 0);
    }

    private static void newObject() {
        TownForest x = new TownForest();
        for (int what = 0; what <= 6; what++) {
            Check.due("1 count(" + what + ")", x.count(what), 0);
        }
        Check.due("1 keep()", x.keep(), 0);
        Check.due("1 chance()", x.chance(0, 1, 0), -1);
        Check.due("1 text(0)", x.text(0), 0);
        Check.due("1 leastFor(1)", x.leastFor(1), 0);
        Check.due("1 NONE", TownForest.NONE, -1);
    }

    private static void feeding() {
        TownForest x = new TownForest();
        for (int i = 1; i <= 35; i++) {
            Check.due("2 feed() " + i, x.feed(0x3b3b3b3b, -1, 0, 7, Integer.MIN_VALUE), 20 * i);
        }
        Check.due("2 feed() too much", x.feed(1, 2, 3, 4, 5), -1);
        Check.due("2 count(6)", x.count(6), 700);
        Check.due("2 text() of what is fed", x.text(700), -1);
        Check.due("2 count(6) behind it", x.count(6), 0);
        // The highest byte comes first: "seed", " 77;"
        Check.due("2 feed()", x.feed(0x73656564, 0x2037373b, 0, 0, 0), 20);
        Check.due("2 text()", x.text(8), 1);
        // Bytes above 127 are bytes, not letters.
        x.feed(0xe1e1e1e1, 0, 0, 0, 0);
        Check.due("2 text() of high bytes", x.text(4), -1);
        Check.due("2 fault(1)", x.fault(1), 0);
    }

    private static void texts() {
        TownForest x = base();
        Check.due("3 count(0)", x.count(0), 7);
        Check.dueRow("3 parents", Check.facts(x, 1), -2, 0, 1, 1, 3, -2, 5);
        Check.dueRow("3 preferred", Check.facts(x, 2), 1, 3, -2, -2, -2, -2, -2);
        Check.due("3 switches", x.count(4), 0);
        x.keep();
        x.touch(4);
        x.walk(0, 4);
        Check.feed(x, "town z 1;");
        Check.due("3 text(21)", x.text(21), -2);
        Check.due("3 text(-1)", x.text(-1), -2);
        Check.due("3 the tape stays", x.count(6), 20);
        Check.due("3 text(8): a fault", x.text(8), -1);
        Check.due("3 the tape is empty", x.count(6), 0);
        Check.due("3 all else stays: towns", x.count(0), 7);
        Check.due("3 all else stays: undo", x.count(5), 2);
        Check.due("3 all else stays: seen", x.seen(0), 22);
        Check.due("3 all else stays: switches", x.count(4), 2);
        Check.due("3 all else stays: image", x.back(), 2);
        x.touch(4);
        Check.due("3 new text", Check.tell(x, "town z 1;\n touch z ;"), 2);
        Check.due("3 no image", x.back(), -1);
        Check.due("3 nothing to undo", x.undo(), -1);
        Check.due("3 nothing seen", x.seen(0), -3);
        Check.due("3 no switches", x.count(4), 0);
        Check.due("3 old names are gone", x.named(Check.letters("a")), -1);
        Check.due("3 text(0)", x.text(0), 0);
        Check.due("3 no towns", x.count(0), 0);
        TownForest tight = told("town a-5;town b007;link a b1 2;");
        Check.dueRow("3 no blanks needed", Check.facts(tight, 0), -5, 7);
        Check.due("3 length", tight.town(0, 7), 1);
        linesOfDeeds();
    }

    private static void linesOfDeeds() {
        TownForest rooted = told(ROW + "root c;");
        Check.dueRow("3 root", Check.facts(rooted, 1), 1, 2, -2, 2);
        Check.dueRow("3 root: preferred", Check.facts(rooted, 2), -2, 0, 1, -2);
        TownForest touched = told(ROW + "touch b;");
        Check.dueRow("3 touch", Check.facts(touched, 2), 1, -2, -2, -2);
        TownForest settled = told(ROW + "settle d;");
        Check.dueRow("3 settle", Check.facts(settled, 2), 1, 2, -2, -2);
        Check.due("3 no switches", rooted.count(4) + touched.count(4) + settled.count(4), 0);
    }

    private static void faults() {
        TownForest x = new TownForest();
        Check.due("4 fault(0)", x.fault(0), 0);
        Check.due("4 fault(1)", x.fault(1), -1);
        Check.due("4 fault(2)", x.fault(2), -1);
        Check.due("4 fault(-1)", x.fault(-1), -1);
        Check.tell(x, "root a;");
        Check.due("4 fault(0)", x.fault(0), 4);
        Check.due("4 fault(1)", x.fault(1), 5);
        Check.due("4 text(1)", x.text(1), -2);
        Check.due("4 -2 is not the latest: 0", x.fault(0), 4);
        Check.due("4 -2 is not the latest: 1", x.fault(1), 5);
        x.keep();
        x.back();
        Check.due("4 an image has none", x.fault(0), 4);
        Check.tell(x, "town a 1;");
        Check.due("4 fault(0)", x.fault(0), 0);
        Check.due("4 fault(1)", x.fault(1), -1);
    }

    private static void faultsOfTheTokens() {
        fault("town a 1", 1, 8);
        fault("town a 1  ", 1, 10);
        fault("town", 1, 4);
        fault(";", 1, 0);
        fault("  a 1;", 1, 2);
        fault("town A 1;", 1, 5);
        fault("town a 1;;", 1, 9);
        fault("town root 1;", 1, 5);
        fault("town settle 1;", 1, 5);
        fault("town seed 1;", 1, 5);
        fault("town abcdefg 1;", 1, 5);
        fault("town a 1 1;", 1, 9);
        fault("town a - 1;", 1, 7);
        fault("town a --1;", 1, 7);
        fault("town a +1;", 1, 7);
        fault("town a 1\t;", 1, 8);
        fault("town a 1;touch -1;", 1, 15);
        fault("town a 1;touch seed;", 1, 15);
        fault("town a 1;touch a a;", 1, 17);
        fault("town a 1;town b 1;link a b 1 -1;", 1, 29);
        fault("town a 1;town b 1;link a b 1;", 1, 28);
        fault("seed -", 1, 5);
        fault("seed -99999999;", 1, 5);
        fault("seed;", 1, 4);
        told("town abcdef 1;town towns 1;");
        told("seed 0;");
        told("seed 99999;town a 9999;town b -9999;link a b 9999 9999;");
    }

    private static void faultsAreTheFirst() {
        fault("town a 99999999999999999999;", 2, 7);
        fault("town a 4294967297;", 2, 7);
        fault("seed 999990;", 2, 5);
        fault("town a 10000", 2, 7);
        fault("town a 1;town b 1;link a b 10000 0;", 2, 27);
        fault("town a 1;town b 1;link a b 1 0;", 2, 29);
        fault("town a 1;town a ;", 3, 14);
        fault("seed 1;seed ;", 3, 7);
        fault("seed 1;seed", 3, 7);
        fault("town a 1;link a a", 3, 16);
        fault("town a 1;link a", 1, 15);
        fault("town a 1;link z a 0", 4, 14);
        fault("town a 1;link a z 0", 4, 16);
        fault("town a 1;settle z", 4, 16);
        fault("town a 1;seed z", 1, 14);
        StringBuilder many = new StringBuilder();
        for (int i = 0; i < 24; i++) {
            many.append("town ").append((char) ('a' + i)).append(" 1;");
        }
        told(many.toString());
        fault(many + "town", 2, many.length());
        fault(many + "town a 1;", 2, many.length());
    }

    private static void names() {
        TownForest x = told("town a 1;town ab 1;town abcdef 1;town zzzzzz 1;");
        Check.due("5 a", x.named(Check.letters("a")), 0);
        Check.due("5 a", x.named(1 << 25), 0);
        Check.due("5 ab", x.named(Check.letters("ab")), 1);
        Check.due("5 abcdef", x.named(Check.letters("abcdef")), 2);
        Check.due("5 zzzzzz", x.named(Check.letters("zzzzzz")), 3);
        Check.due("5 b", x.named(Check.letters("b")), -1);
        Check.due("5 a lowest", x.named(1), -1);
        Check.due("5 0", x.named(0), -1);
        Check.due("5 more bits", x.named(1 << 25 | 1 << 30), -1);
        Check.due("5 more bits", x.named(1 << 25 | 1 << 31), -1);
        Check.due("5 -1", x.named(-1), -1);
    }

    private static void touching() {
        TownForest x = base();
        Check.due("6 touch(4)", x.touch(4), 1);
        Check.dueRow("6 preferred", Check.facts(x, 2), 1, 3, -2, 4, -2, -2, -2);
        Check.due("6 touch(2)", x.touch(2), 1);
        Check.dueRow("6 another one", Check.facts(x, 2), 1, 2, -2, 4, -2, -2, -2);
        Check.due("6 touch(1)", x.touch(1), 0);
        Check.dueRow("6 its own is none", Check.facts(x, 2), 1, -2, -2, 4, -2, -2, -2);
        Check.due("6 touch(4)", x.touch(4), 1);
        Check.due("6 count(4)", x.count(4), 3);
        Check.due("6 count(5)", x.count(5), 4);
        Check.due("6 touch(7)", x.touch(7), -1);
        Check.due("6 touch(-1)", x.touch(-1), -1);
        Check.due("6 refused: nothing to undo", x.count(5), 4);
    }

    private static void rerooting() {
        TownForest x = base();
        Check.due("7 reroot(2)", x.reroot(2), 1);
        Check.dueRow("7 parents", Check.facts(x, 1), 1, 2, -2, 1, 3, -2, 5);
        Check.dueRow("7 preferred", Check.facts(x, 2), -2, 0, 1, -2, -2, -2, -2);
        Check.dueRow("7 lengths", Check.facts(x, 7), 10, 20, -2, 5, 7, -2, 3);
        Check.dueRow("7 caps", Check.facts(x, 8), 5, 4, -2, 9, 7, -2, 8);
        Check.due("7 the root", x.reroot(2), 0);
        Check.dueRow("7 the root prefers none", Check.facts(x, 2), -2, 0, -2, -2, -2, -2, -2);
        Check.due("7 reroot(6)", x.reroot(6), 1);
        Check.due("7 reroot(7)", x.reroot(7), -1);
        Check.due("7 reroot(-1)", x.reroot(-1), -1);
        Check.due("7 count(4)", x.count(4), 2);
    }

    private static void linking() {
        TownForest x = base();
        Check.due("8 link(6, 4)", x.link(6, 4, 9, 8), 7);
        Check.dueRow("8 parents", Check.facts(x, 1), -2, 0, 1, 1, 3, 6, 4);
        Check.dueRow("8 preferred", Check.facts(x, 2), 1, 3, -2, 4, -2, -2, 5);
        Check.due("8 switches of both", x.count(4), 2);
        Check.due("8 length", x.town(6, 7), 9);
        Check.due("8 cap", x.town(6, 8), 8);
        Check.due("8 together", x.link(0, 6, 1, 1), -2);
        Check.due("8 itself", x.link(0, 0, 1, 1), -2);
        Check.due("8 no town", x.link(0, 7, 1, 1), -1);
        Check.due("8 no town", x.link(-1, 0, 1, 1), -1);
        Check.due("8 NONE first", x.link(0, 0, 0, 1), -1);
        TownForest y = base();
        Check.due("8 length 0", y.link(0, 5, 0, 1), -1);
        Check.due("8 length 10000", y.link(0, 5, 10000, 1), -1);
        Check.due("8 cap 0", y.link(0, 5, 1, 0), -1);
        Check.due("8 cap 10000", y.link(0, 5, 1, 10000), -1);
        Check.due("8 refused", y.count(5), 0);
        Check.due("8 most", y.link(0, 5, 9999, 9999), 7);
    }

    private static void cutting() {
        TownForest x = base();
        Check.due("9 cut(3, 1)", x.cut(3, 1), 5);
        Check.dueRow("9 parents", Check.facts(x, 1), 1, -2, 1, -2, 3, -2, 5);
        Check.dueRow("9 preferred", Check.facts(x, 2), -2, -2, -2, -2, -2, -2, -2);
        Check.due("9 count(4)", x.count(4), 0);
        Check.due("9 again", x.cut(3, 1), -2);
        TownForest y = base();
        Check.due("9 cut(1, 2)", y.cut(1, 2), 20);
        Check.dueRow("9 parents", Check.facts(y, 1), 1, -2, -2, 1, 3, -2, 5);
        Check.dueRow("9 preferred", Check.facts(y, 2), -2, -2, -2, -2, -2, -2, -2);
        Check.due("9 count(4)", y.count(4), 1);
        Check.due("9 none between", y.cut(0, 4), -2);
        Check.due("9 none between", y.cut(0, 5), -2);
        Check.due("9 itself", y.cut(0, 0), -2);
        Check.due("9 no town", y.cut(0, 7), -1);
        Check.due("9 no town", y.cut(-1, 0), -1);
        Check.due("9 refused", y.count(5), 1);
    }

    private static void walking() {
        TownForest x = base();
        Check.due("10 walk(2, 4)", x.walk(2, 4), 32);
        int[] seen = new int[9];
        for (int what = 0; what < 9; what++) {
            seen[what] = x.seen(what);
        }
        Check.dueRow("11 seen", seen, 32, 20, 2, 1, 4, 14, 4, 3, 5);
        Check.dueRow("10 parents", Check.facts(x, 1), 1, 2, -2, 1, 3, -2, 5);
        Check.dueRow("10 preferred", Check.facts(x, 2), -2, 3, 1, 4, -2, -2, -2);
        Check.due("10 apart", x.walk(0, 5), -2);
        Check.due("10 no town", x.walk(0, 7), -1);
        Check.due("10 no town", x.walk(-1, 5), -1);
        Check.due("10 refused", x.count(5), 1);
        x.raise(2, 4, 100);
        x.value(2, 1000);
        x.undo();
        x.undo();
        x.undo();
        Check.due("11 as it was then, undone too", x.seen(0) * 1000 + x.seen(5), 32014);
        Check.due("11 another what", x.seen(9), -1);
        Check.due("11 another what", x.seen(-1), -1);
        x.keep();
        Check.due("10 a town alone", x.walk(3, 3), 0);
        x.back();
        for (int what = 0; what < 9; what++) {
            seen[what] = x.seen(what);
        }
        Check.dueRow("11 without links", seen, 0, -2, -2, -2, -2, 4, 1, 0, -2);
        TownForest row = told(ROW);
        row.walk(3, 0);
        Check.due("11 of several the nearest", row.seen(2) * 10 + row.seen(3), 32);
        Check.due("11 nothing seen", base().seen(0), -3);
        Check.due("11 nothing seen, another what", base().seen(9), -1);
    }

    private static void meeting() {
        TownForest x = base();
        Check.due("12 meet(2, 4)", x.meet(2, 4), 1);
        Check.due("12 switches", x.count(4), 3);
        Check.dueRow("12 preferred", Check.facts(x, 2), 1, 3, -2, 4, -2, -2, -2);
        Check.due("12 meet(4, 2)", x.meet(4, 2), 1);
        Check.dueRow("12 b is touched last", Check.facts(x, 2), 1, 2, -2, 4, -2, -2, -2);
        Check.due("12 one over the other", x.meet(4, 0), 0);
        Check.due("12 itself", x.meet(4, 4), 4);
        Check.due("12 apart", x.meet(4, 5), -2);
        Check.due("12 no town", x.meet(4, 7), -1);
        Check.due("12 count(5)", x.count(5), 4);
    }

    private static void raising() {
        TownForest x = base();
        Check.due("13 raise", x.raise(2, 4, 3), 3);
        Check.dueRow("13 lengths", Check.facts(x, 7), 10, 23, -2, 8, 10, -2, 3);
        Check.due("13 switches", x.count(4), 3);
        Check.due("13 not seen", x.seen(0), -3);
        Check.due("13 too short", x.raise(2, 4, -8), -3);
        Check.due("13 shortest", x.raise(4, 2, -7), 3);
        Check.due("13 far", x.far(2, 4), 20);
        Check.due("13 too long", x.raise(2, 4, 9984), -3);
        Check.due("13 longest", x.raise(2, 4, 9983), 3);
        Check.due("13 root", x.town(0, 3), 2);
        Check.due("13 itself", x.raise(0, 0, -9999), 0);
        Check.due("13 walked", x.town(0, 3), 0);
        Check.due("13 apart", x.raise(0, 5, 1), -2);
        Check.due("13 d 10000", x.raise(0, 0, 10000), -1);
        Check.due("13 d -10000", x.raise(0, 5, -10000), -1);
        Check.due("13 d least", x.raise(0, 0, Integer.MIN_VALUE), -1);
        Check.due("13 no town", x.raise(0, 7, 1), -1);
        Check.due("13 refused", x.count(5), 4);
    }

    private static void cuttingTheDearest() {
        TownForest x = base();
        Check.due("14 cutDearest(4, 2)", x.cutDearest(4, 2), 20);
        Check.dueRow("14 parents", Check.facts(x, 1), 1, -2, -2, 1, 3, -2, 5);
        Check.dueRow("14 preferred", Check.facts(x, 2), -2, -2, -2, 4, -2, -2, -2);
        Check.due("14 switches", x.count(4), 3);
        Check.due("14 not seen", x.seen(0), -3);
        Check.due("14 apart", x.cutDearest(4, 2), -2);
        Check.due("14 itself", x.cutDearest(4, 4), -2);
        Check.due("14 refused", x.count(5), 1);
        Check.due("14 no town", x.cutDearest(4, 7), -1);
        Check.due("14 refused", x.count(5), 1);
        TownForest row = told(ROW);
        Check.due("14 of several", row.cutDearest(3, 0), 4);
        Check.due("14 the nearest", row.together(3, 2) * 10 + row.together(2, 0), 1);
    }

    private static void sending() {
        TownForest x = base();
        Check.due("15 send", x.send(2, 4, 4), 3);
        Check.dueRow("15 caps", Check.facts(x, 8), 5, 0, -2, 5, 3, -2, 8);
        Check.due("15 room", x.room(2, 4), 0);
        Check.due("15 switches", x.count(4), 3);
        Check.due("15 too little", x.send(2, 4, 1), -3);
        Check.due("15 too much", x.send(2, 4, -9995), -3);
        Check.due("15 most", x.send(2, 4, -9994), 3);
        Check.due("15 most", x.town(3, 8), 9999);
        Check.due("15 itself", x.send(6, 6, 9999), 0);
        Check.due("15 walked", x.town(5, 3), 6);
        Check.due("15 apart", x.send(0, 5, 1), -2);
        Check.due("15 n 10000", x.send(0, 5, 10000), -1);
        Check.due("15 n -10000", x.send(0, 0, -10000), -1);
        Check.due("15 no town", x.send(7, 0, 1), -1);
        Check.due("15 not seen", x.seen(0), -3);
        Check.due("15 refused", x.count(5), 3);
    }

    private static void settling() {
        TownForest x = base();
        x.touch(4);
        Check.due("16 settle(4)", x.settle(4), 2);
        Check.dueRow("16 preferred", Check.facts(x, 2), 1, -2, -2, -2, -2, -2, -2);
        Check.due("16 again", x.settle(0), 0);
        x.touch(0);
        Check.due("16 none before", x.settle(2), 1);
        x.touch(6);
        Check.due("16 another tree stays", x.settle(2), 0);
        Check.due("16 another tree stays", x.town(5, 2), 6);
        Check.due("16 no switches", x.count(4), 2);
        Check.due("16 settle(7)", x.settle(7), -1);
        Check.due("16 settle(-1)", x.settle(-1), -1);
        Check.due("16 count(5)", x.count(5), 7);
    }

    private static void exchanging() {
        TownForest x = base();
        Check.due("17 not longer", x.exchange(2, 4, 20, 1), -2);
        Check.due("17 itself", x.exchange(2, 2, 1, 1), -2);
        Check.due("17 refused", x.count(5), 0);
        Check.due("17 longer", x.exchange(2, 4, 19, 3), 20);
        Check.dueRow("17 parents", Check.facts(x, 1), 1, -2, 4, 1, 3, -2, 5);
        Check.dueRow("17 preferred", Check.facts(x, 2), -2, 3, -2, 4, -2, -2, -2);
        Check.due("17 length", x.town(2, 7) * 10 + x.town(2, 8), 193);
        Check.due("17 one step", x.count(5), 1);
        Check.due("17 apart", x.exchange(5, 4, 1, 2), 0);
        Check.due("17 linked", x.town(5, 1), 4);
        Check.due("17 length 0", x.exchange(2, 4, 0, 1), -1);
        Check.due("17 cap 10000", x.exchange(2, 4, 1, 10000), -1);
        Check.due("17 NONE first", x.exchange(2, 2, 10000, 1), -1);
        Check.due("17 no town", x.exchange(2, 7, 1, 1), -1);
        Check.due("17 no town", x.exchange(-1, 2, 1, 1), -1);
        sameAsOneByOne();
    }

    /** What exchange() does is what three calls do. */
    private static void sameAsOneByOne() {
        TownForest x = base();
        TownForest y = base();
        x.exchange(4, 2, 1, 1);
        y.cutDearest(4, 2);
        y.link(4, 2, 1, 1);
        for (int what = 0; what < 10; what++) {
            Check.dueRow("17 as one by one " + what, Check.facts(x, what), Check.facts(y, what));
        }
        Check.due("17 switches", x.count(4), y.count(4));
    }

    private static void shedding() {
        TownForest x = base();
        Check.due("18 shed(3)", x.shed(3), 5);
        Check.dueRow("18 parents", Check.facts(x, 1), 1, -2, 1, -2, 3, -2, 5);
        Check.dueRow("18 preferred", Check.facts(x, 2), -2, -2, -2, -2, -2, -2, -2);
        Check.due("18 switches", x.count(4), 1);
        Check.due("18 a root", x.shed(3), -2);
        Check.due("18 shed(7)", x.shed(7), -1);
        Check.due("18 shed(-1)", x.shed(-1), -1);
        Check.due("18 refused", x.count(5), 1);
    }

    private static void values() {
        TownForest x = base();
        Check.due("19 value(0, 9999)", x.value(0, 9999), 1);
        Check.due("19 value(0, -9999)", x.value(0, -9999), 9999);
        Check.due("19 value(0, 0)", x.value(0, 0), -9999);
        Check.due("19 v 10000", x.value(0, 10000), -20000);
        Check.due("19 v -10000", x.value(0, -10000), -20000);
        Check.due("19 no town", x.value(7, 0), -20000);
        Check.due("19 no town", x.value(-1, 0), -20000);
        Check.due("19 count(5)", x.count(5), 3);
        Check.due("19 value", x.town(0, 0), 0);
    }

    private static void towns() {
        TownForest x = base();
        Check.dueRow("20 value", Check.facts(x, 0), 1, 2, 3, 4, 5, 6, 7);
        Check.dueRow("20 root", Check.facts(x, 3), 0, 0, 0, 0, 0, 5, 5);
        Check.dueRow("20 depth", Check.facts(x, 4), 0, 1, 2, 2, 3, 0, 1);
        Check.dueRow("20 size", Check.facts(x, 5), 5, 4, 1, 2, 1, 2, 1);
        Check.dueRow("20 under", Check.facts(x, 6), 15, 14, 3, 9, 5, 13, 7);
        Check.dueRow("20 length", Check.facts(x, 7), -2, 10, 20, 5, 7, -2, 3);
        Check.dueRow("20 cap", Check.facts(x, 8), -2, 5, 4, 9, 7, -2, 8);
        Check.dueRow("20 children", Check.facts(x, 9), 1, 2, 0, 1, 0, 1, 0);
        Check.due("20 no such town", Check.town(x, 7, 0), 1000001);
        Check.due("20 no such town", Check.town(x, -1, 0), 1000001);
        Check.due("20 neither", Check.town(x, 7, 10), 1000001);
        Check.due("20 no such what", Check.town(x, 0, 10), 1000002);
        Check.due("20 no such what", Check.town(x, 0, -1), 1000002);
    }

    private static void chains() {
        TownForest x = base();
        int[] got = new int[5];
        for (int what = 0; what < 5; what++) {
            got[what] = x.chain(1, what);
        }
        Check.dueRow("21 chain(1)", got, 0, 3, 3, 1, 15);
        for (int what = 0; what < 5; what++) {
            got[what] = x.chain(4, what);
        }
        Check.dueRow("21 chain(4)", got, 4, 4, 1, 0, 0);
        Check.due("21 what 5", x.chain(1, 5), -1);
        Check.due("21 what -1", x.chain(1, -1), -1);
        Check.due("21 no town", x.chain(7, 0), -1);
    }

    private static void upAndAlong() {
        TownForest x = base();
        Check.due("22 above(4, 0)", x.above(4, 0), 4);
        Check.due("22 above(4, 1)", x.above(4, 1), 3);
        Check.due("22 above(4, 3)", x.above(4, 3), 0);
        Check.due("22 above(4, 4)", x.above(4, 4), -2);
        Check.due("22 above(4, most)", x.above(4, Integer.MAX_VALUE), -2);
        Check.due("22 above(4, -1)", x.above(4, -1), -1);
        Check.due("22 above(7, 0)", x.above(7, 0), -1);
        int[] got = new int[5];
        for (int k = 0; k < 5; k++) {
            got[k] = x.along(4, 2, k);
        }
        Check.dueRow("23 along", got, 4, 3, 1, 2, -2);
        Check.due("23 down alone", x.along(0, 4, 2), 3);
        Check.due("23 up alone", x.along(4, 0, 3), 0);
        Check.due("23 itself", x.along(4, 4, 0), 4);
        Check.due("23 apart", x.along(4, 5, 0), -2);
        Check.due("23 k -1", x.along(4, 5, -1), -1);
        Check.due("23 most", x.along(4, 2, Integer.MAX_VALUE), -2);
        Check.due("23 no town", x.along(4, 7, 0), -1);
    }

    private static void pairs() {
        TownForest x = base();
        Check.due("24 together", x.together(2, 4), 1);
        Check.due("24 itself", x.together(2, 2), 1);
        Check.due("24 apart", x.together(2, 5), 0);
        Check.due("24 no town", x.together(2, 7), -1);
        Check.due("25 far", x.far(2, 4), 32);
        Check.due("25 far", x.far(4, 0), 22);
        Check.due("25 itself", x.far(4, 4), 0);
        Check.due("25 apart", x.far(4, 5), -2);
        Check.due("25 no town", x.far(7, 7), -1);
        Check.due("26 meets", x.meets(2, 4), 1);
        Check.due("26 over", x.meets(0, 4), 0);
        Check.due("26 itself", x.meets(4, 4), 4);
        Check.due("26 apart", x.meets(4, 5), -2);
        Check.due("26 no town", x.meets(-1, 5), -1);
        Check.due("26 nothing is touched", x.town(3, 2), -2);
        Check.due("27 room", x.room(0, 4), 5);
        Check.due("27 room", x.room(4, 2), 4);
        Check.due("27 itself", x.room(4, 4), -2);
        Check.due("27 apart", x.room(4, 5), -2);
        Check.due("27 no town", x.room(4, 7), -1);
        Check.due("nothing is done", x.count(4) + x.count(5), 0);
    }

    private static void orders() {
        TownForest x = base();
        int[] got = new int[6];
        for (int k = 0; k < 6; k++) {
            got[k] = x.order(2, k);
        }
        Check.dueRow("28 order", got, 0, 1, 3, 4, 2, -2);
        for (int t = 0; t < 6; t++) {
            got[t] = x.place(t);
        }
        Check.dueRow("29 place", got, 0, 1, 4, 2, 3, 0);
        x.touch(0);
        x.touch(1);
        for (int k = 0; k < 6; k++) {
            got[k] = x.order(2, k);
        }
        Check.dueRow("28 by numbers", got, 0, 1, 2, 3, 4, -2);
        Check.due("28 k -1", x.order(2, -1), -1);
        Check.due("28 no town", x.order(7, 0), -1);
        Check.due("29 no town", x.place(7), -1);
        Check.due("29 no town", x.place(-1), -1);
    }

    private static void joints() {
        TownForest x = base();
        Check.dueRow("30 joint(0, 5)", new int[] {x.joint(0, 5, 0), x.joint(0, 5, 1), x.joint(0, 5, 2)}, 32, 1, 5);
        Check.dueRow("30 joint(6, 4)", new int[] {x.joint(6, 4, 0), x.joint(6, 4, 1), x.joint(6, 4, 2)}, 32, 5, 1);
        Check.due("30 together", x.joint(0, 1, 0), -2);
        Check.due("30 itself", x.joint(0, 0, 0), -2);
        Check.due("30 what 3", x.joint(0, 0, 3), -1);
        Check.due("30 what -1", x.joint(0, 5, -1), -1);
        Check.due("30 no town", x.joint(0, 7, 0), -1);
        TownForest y = told("town a 0;town b 0;town c 0;town d 0;link a b 5 1;link b c 5 1;");
        // In the midst of the row b reaches 5; with d it is 6, less than the row's 10.
        Check.dueRow("30 the row's own", new int[] {y.joint(2, 3, 0), y.joint(2, 3, 1), y.joint(2, 3, 2)}, 10, 1, 3);
        TownForest z = told("town a 0;town b 0;");
        Check.dueRow("30 two alone", new int[] {z.joint(1, 0, 0), z.joint(1, 0, 1), z.joint(1, 0, 2)}, 1, 1, 0);
    }

    private static void extremes() {
        TownForest x = base();
        Check.due("31 tightest", x.tightest(4), 2);
        Check.due("31 tightest", x.tightest(5), 6);
        Check.due("38 dearest", x.dearest(4), 2);
        Check.due("38 dearest", x.dearest(6), 6);
        TownForest row = told(ROW);
        Check.due("31 the first", row.tightest(3), 1);
        Check.due("38 the first", row.dearest(3), 1);
        row.reroot(3);
        Check.due("31 the lower end", row.tightest(3), 0);
        Check.due("38 the lower end", row.dearest(3), 0);
        row.shed(0);
        Check.due("31 none", row.tightest(0), -2);
        Check.due("38 none", row.dearest(0), -2);
        Check.due("31 no town", row.tightest(4), -1);
        Check.due("38 no town", row.dearest(-1), -1);
    }

    private static void heavyOnes() {
        TownForest x = base();
        Check.due("32 heavy(0)", x.heavy(0), 1);
        Check.due("32 half is not more", x.heavy(1), -2);
        Check.due("32 half is not more", x.heavy(5), -2);
        Check.due("32 no children", x.heavy(2), -2);
        Check.due("32 no town", x.heavy(7), -1);
        Check.due("33 potential", x.potential(), 0);
        x.touch(0);
        Check.due("33 potential", x.potential(), 1);
        TownForest row = told(ROW);
        Check.due("33 of a row", row.potential(), 0);
        row.touch(0);
        row.touch(1);
        Check.due("33 of a row", row.potential(), 1);
        Check.due("34 would(4)", x.would(4), 2);
        Check.due("34 would(2)", x.would(2), 2);
        Check.due("34 would(0)", x.would(0), 0);
        Check.due("34 no town", x.would(7), -1);
        Check.due("34 no town", x.would(-1), -1);
        Check.due("34 nothing is done", x.count(5), 1);
    }

    private static void widestOnes() {
        TownForest x = base();
        Check.dueRow("35 widest", new int[] {x.widest(0, 0), x.widest(0, 1), x.widest(0, 2)}, 32, 2, 4);
        Check.dueRow("35 widest", new int[] {x.widest(6, 0), x.widest(6, 1), x.widest(6, 2)}, 3, 5, 6);
        Check.due("35 what 3", x.widest(0, 3), -1);
        Check.due("35 what -1", x.widest(0, -1), -1);
        Check.due("35 no town", x.widest(7, 0), -1);
        TownForest star = told("town a 0;town b 0;town c 0;town d 0;town e 0;link b a 2 1;link c a 2 1;link d a 2 1;");
        Check.dueRow("35 the first", new int[] {star.widest(3, 0), star.widest(3, 1), star.widest(3, 2)}, 4, 1, 2);
        Check.dueRow("35 alone", new int[] {star.widest(4, 0), star.widest(4, 1), star.widest(4, 2)}, 0, 4, 4);
    }

    private static void midstOnes() {
        TownForest x = base();
        Check.due("36 midst", x.midst(4), 1);
        Check.due("36 of two the first", x.midst(6), 5);
        x.reroot(4);
        Check.due("36 whichever the root", x.midst(4), 1);
        Check.due("36 of four the first", told(ROW).midst(3), 1);
        Check.due("36 alone", told("town a 0;town b 0;").midst(1), 1);
        Check.due("36 no town", x.midst(7), -1);
        Check.due("36 no town", x.midst(-1), -1);
    }

    private static void fallingApart() {
        TownForest x = base();
        int[] got = {x.parts(0), x.parts(3), x.parts(4), x.parts(5), x.parts(7), x.parts(10), x.parts(20), x.parts(9999)};
        Check.dueRow("37 parts", got, 7, 6, 6, 5, 4, 3, 2, 2);
        Check.due("37 parts(-1)", x.parts(-1), -1);
        Check.due("37 parts(10000)", x.parts(10000), -1);
        int[] least = new int[9];
        for (int k = 0; k < 9; k++) {
            least[k] = x.leastFor(k);
        }
        Check.dueRow("39 leastFor", least, -1, -2, 20, 10, 7, 5, 3, 0, 0);
        Check.due("39 leastFor(24)", x.leastFor(24), 0);
        Check.due("39 leastFor(25)", x.leastFor(25), -1);
    }

    /** BY CHANCE is done on a twin by the other calls, with draws of the test's own. */
    private static void chances() {
        for (int n = 1; n <= 60; n++) {
            TownForest x = base();
            TownForest twin = base();
            long[] last = {n == 1 ? 42 : n * 35791394L % 2147483648L};
            int seed = n == 1 ? -1 : (int) last[0];
            int what = n % 4;
            int answer = x.chance(seed, n, what);
            chanceLeavesAll(x, n);
            for (int i = 0; i < n; i++) {
                chanceOnTwin(twin, last);
            }
            int[] due = {twin.count(2), twin.count(4), twin.potential(), twin.town(0, 3)};
            Check.due("40 chance " + n + " what " + what, answer, due[what]);
        }
        chanceBetweenDeeds();
        TownForest x = base();
        Check.due("40 n 0", x.chance(1, 0, 0), -1);
        Check.due("40 n 61", x.chance(1, 61, 0), -1);
        Check.due("40 seed -2", x.chance(-2, 1, 0), -1);
        Check.due("40 what 4", x.chance(1, 1, 4), -1);
        Check.due("40 what -1", x.chance(1, 1, -1), -1);
        Check.due("40 refused", x.count(5), 0);
        Check.due("40 one town", told("town a 0;").chance(2147483647, 60, 0), 1);
    }

    /** It is only asked: all stays as the text left it. */
    private static void chanceLeavesAll(TownForest x, int n) {
        TownForest untouched = base();
        for (int fact = 0; fact < 10; fact++) {
            Check.dueRow("40 chance " + n + " fact " + fact, Check.facts(x, fact), Check.facts(untouched, fact));
        }
        for (int what = 0; what < 7; what++) {
            Check.due("40 chance " + n + " count " + what, x.count(what), untouched.count(what));
        }
    }

    /** Nor does it change what was seen, what can be undone or what is kept; its own switches count alone. */
    private static void chanceBetweenDeeds() {
        TownForest x = base();
        TownForest twin = base();
        x.walk(2, 4);
        twin.walk(2, 4);
        x.keep();
        x.touch(3);
        twin.touch(3);
        x.value(0, 55);
        twin.value(0, 55);
        long[] last = {7};
        int before = twin.count(4);
        for (int i = 0; i < 60; i++) {
            chanceOnTwin(twin, last);
        }
        int first = x.chance(7, 60, 1);
        Check.due("40 switches in these alone", first, twin.count(4) - before);
        Check.due("40 the same again", x.chance(7, 60, 1), first);
        Check.due("40 switches by call stay", x.count(4), before);
        Check.due("40 steps stay", x.count(5), 3);
        Check.due("40 seen stays", x.seen(0), 32);
        Check.due("40 undo takes the value", x.undo(), 2);
        Check.due("40 value is back", x.town(0, 0), base().town(0, 0));
        Check.due("40 undo takes the touch", x.undo(), 1);
        x.chance(3, 60, 0);
        Check.due("40 image stays", x.back(), 2);
        Check.due("40 image has the walk", x.chain(2, 1), 4);
    }

    private static int draw(long[] last, int modulo) {
        last[0] = (last[0] * 1103515245L + 12345L) % 2147483648L;
        return (int) (last[0] / 65536L % modulo);
    }

    private static void chanceOnTwin(TownForest twin, long[] last) {
        int kind = draw(last, 4);
        int a = draw(last, 7);
        int b = draw(last, 7);
        if (kind == 0) {
            twin.touch(a);
        } else if (kind == 1) {
            twin.reroot(a);
        } else if (kind == 2 && twin.together(a, b) == 0) {
            twin.link(a, b, draw(last, 100) + 1, 1);
        } else if (kind == 3 && a != b && twin.together(a, b) == 1) {
            int at = 0;
            for (int k = 1; twin.along(a, b, k + 1) >= 0; k++) {
                if (lengthAt(twin, a, b, k) > lengthAt(twin, a, b, at)) {
                    at = k;
                }
            }
            twin.cut(twin.along(a, b, at), twin.along(a, b, at + 1));
        }
    }

    private static int lengthAt(TownForest twin, int a, int b, int k) {
        return twin.far(twin.along(a, b, k), twin.along(a, b, k + 1));
    }

    private static void undoing() {
        TownForest x = base();
        x.touch(4);
        x.value(3, 77);
        x.link(5, 0, 8, 9);
        x.cut(0, 1);
        x.settle(0);
        Check.due("41 undo", x.undo(), 4);
        Check.due("41 undo", x.undo(), 3);
        Check.due("41 link is there", x.far(0, 1), 10);
        Check.due("41 undo", x.undo(), 2);
        Check.due("41 apart", x.together(0, 5), 0);
        Check.due("41 undo", x.undo(), 1);
        Check.due("41 value", x.town(3, 0), 4);
        Check.due("41 switches", x.count(4), 1);
        Check.due("41 undo", x.undo(), 0);
        Check.due("41 switches", x.count(4), 0);
        Check.dueRow("41 preferred", Check.facts(x, 2), 1, 3, -2, -2, -2, -2, -2);
        Check.due("41 none", x.undo(), -1);
        for (int i = 0; i < 27; i++) {
            x.value(0, i);
        }
        Check.due("41 at most 20", x.count(5), 20);
        for (int i = 19; i >= 0; i--) {
            Check.due("41 undo", x.undo(), i);
            Check.due("41 value", x.town(0, 0), i + 6);
        }
        Check.due("41 none", x.undo(), -1);
        x.touch(5);
        Check.due("41 what changes nothing, too", x.count(5), 1);
    }

    private static void images() {
        TownForest x = base();
        Check.due("43 no image", x.back(), -1);
        x.touch(4);
        Check.due("42 keep", x.keep(), 2);
        Check.due("42 nothing to undo by it", x.count(5), 1);
        x.link(5, 0, 8, 9);
        x.value(0, 5);
        Check.feed(x, "a");
        x.walk(2, 4);
        Check.due("43 back", x.back(), 2);
        Check.due("43 value", x.town(0, 0), 1);
        Check.dueRow("43 preferred", Check.facts(x, 2), 1, 3, -2, 4, -2, -2, -2);
        Check.due("43 switches", x.count(4), 1);
        Check.due("43 nothing to undo", x.count(5), 0);
        Check.due("43 undo", x.undo(), -1);
        Check.due("43 the tape stays", x.count(6), 20);
        Check.due("43 what was seen stays", x.seen(0), 32);
        x.shed(6);
        Check.due("43 it stays", x.back(), 2);
        x.shed(6);
        Check.due("42 in place of it", x.keep(), 3);
        x.link(5, 6, 1, 1);
        Check.due("43 the new one", x.back(), 3);
    }

    private static void counts() {
        TownForest x = base();
        x.touch(4);
        Check.feed(x, "a");
        int[] got = new int[9];
        for (int what = -1; what < 8; what++) {
            got[what + 1] = x.count(what);
        }
        Check.dueRow("44 count", got, -1, 7, 5, 2, 4, 1, 1, 20, -1);
        Check.due("44 undone", x.undo(), 0);
        Check.due("44 switches", x.count(4), 0);
        Check.due("44 chains", x.count(3), 5);
    }

    /** 24 towns in a row, each linked beneath the one ahead: as deep as it can be. */
    private static void longestRow() {
        StringBuilder text = new StringBuilder();
        for (int i = 0; i < 24; i++) {
            text.append("town ").append((char) ('a' + i)).append(" 2;");
        }
        for (int i = 1; i < 24; i++) {
            text.append("link ").append((char) ('a' + i)).append(' ').append((char) ('a' + i - 1)).append(" 3 4;");
        }
        TownForest x = told(text.toString());
        Check.due("deepest: depth", x.town(23, 4), 23);
        Check.due("deepest: size", x.town(0, 5), 24);
        Check.due("deepest: under", x.town(0, 6), 48);
        Check.due("deepest: root", x.town(23, 3), 0);
        Check.due("deepest: above", x.above(23, 23), 0);
        Check.due("deepest: far", x.far(23, 0), 69);
        Check.due("deepest: widest", x.widest(7, 0) * 10000 + x.widest(7, 1) * 100 + x.widest(7, 2), 690023);
        Check.due("deepest: midst", x.midst(0), 11);
        Check.due("deepest: order", x.order(0, 23), 23);
        Check.due("deepest: chain", x.chain(5, 2), 23);
        Check.due("deepest: would", x.would(23), 1);
        Check.due("deepest: touch", x.touch(23), 1);
        Check.due("deepest: chain", x.chain(5, 2) * 100 + x.chain(23, 3), 2423);
        Check.due("deepest: lengths", x.chain(0, 4), 69);
        Check.due("deepest: reroot", x.reroot(23), 0);
        Check.due("deepest: turned over", x.town(0, 4), 23);
        Check.due("deepest: turned over", x.town(0, 1) * 100 + x.town(23, 5), 124);
        Check.due("deepest: chain", x.chain(0, 0) * 100 + x.chain(0, 3), 2323);
        Check.due("deepest: along", x.along(0, 23, 23), 23);
        Check.due("deepest: meets", x.meets(0, 22), 22);
        Check.due("deepest: walk", x.walk(0, 23), 69);
        Check.due("deepest: seen", x.seen(6) * 100 + x.seen(5), 2448);
        Check.due("deepest: raise", x.raise(23, 0, 9996), 23);
        Check.due("deepest: settle", x.settle(0), 1);
        Check.due("deepest: potential", x.potential(), 0);
        Check.due("deepest: cutDearest", x.cutDearest(23, 0), 9999);
        Check.due("deepest: joint", x.joint(23, 0, 0), 22 * 9999);
        Check.due("deepest: parts", x.parts(9998), 24);
        Check.due("deepest: leastFor", x.leastFor(2), 9999);
        Check.due("deepest: no such town", x.touch(24), -1);
    }
}
