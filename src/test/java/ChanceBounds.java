import java.math.BigInteger;

/** Boundary cases of what comes by chance: ==== 3, promise 40. Two towns are played by hand here. */
final class ChanceBounds {
    private static final int TERMS = Bounds.TERMS;
    private static final int HIGHEST = Bounds.HIGHEST;
    private static final int[] SEEDS = {0, 1, 2, 3, 42, 99999, 100000, 65535, 65536, 1 << 30, HIGHEST - 1, HIGHEST};

    private BigInteger last;
    private boolean linked;
    private int root;
    private boolean rootPrefers;
    private int switches;
    private int linkings;
    private int cuts;

    private ChanceBounds(int seed, boolean linkedAtFirst) {
        last = BigInteger.valueOf(seed);
        linked = linkedAtFirst;
    }

    static void run() {
        draws();
        playsOfTwo();
        playsOfTheModel();
        lengthsThatAreDrawn();
        switchesInTheseAlone();
        oneAlone();
        lastSeedAndNumber();
        refused();
    }

    // ---- two towns

    private int draw(int modulo) {
        last = last.multiply(BigInteger.valueOf(1103515245)).add(BigInteger.valueOf(12345));
        last = last.mod(BigInteger.ONE.shiftLeft(31));
        return last.divide(BigInteger.valueOf(65536)).mod(BigInteger.valueOf(modulo)).intValueExact();
    }

    private void touch(int t) {
        if (linked && t != root && !rootPrefers) {
            switches++;
        }
        rootPrefers = linked && t != root;
    }

    private void reroot(int t) {
        touch(t);
        root = linked ? t : root;
    }

    private void playOne() {
        int kind = draw(4);
        int a = draw(2);
        int b = draw(2);
        if (kind == 0) {
            touch(a);
        } else if (kind == 1) {
            reroot(a);
        } else if (kind == 2 && !linked && a != b) {
            draw(100);
            linked = true;
            root = b;
            rootPrefers = false;
            linkings++;
        } else if (kind == 3 && linked && a != b) {
            reroot(a);
            touch(b);
            linked = false;
            rootPrefers = false;
            cuts++;
        }
    }

    private int answer(int what) {
        int[] answers = {linked ? 1 : 2, switches, 0, linked ? root : 0};
        return answers[what];
    }

    private static ChanceBounds played(int seed, int n, boolean linkedAtFirst) {
        ChanceBounds two = new ChanceBounds(seed, linkedAtFirst);
        for (int i = 0; i < n; i++) {
            two.playOne();
        }
        return two;
    }

    // ---- ==== 3

    private static void draws() {
        Bounds.says(TERMS, "DRAW: the last number (at first the seed) times 1103515245, and 12345 more, without what is above "
                + "31 bits, is the next one; this by 65536, rounded down, modulo what is said, is drawn.");
        for (int seed : SEEDS) {
            for (int n = 1; n <= 3; n++) {
                for (int what = 0; what < 4; what++) {
                    int due = played(seed, n, true).answer(what);
                    Bounds.due("chance(" + seed + ", " + n + ", " + what + ")", Bounds.two().chance(seed, n, what), due);
                }
            }
        }
    }

    private static void playsOfTwo() {
        Bounds.says(TERMS, "BY CHANCE: n times: a DRAW modulo 4, two TOWNS a and b, DRAWS modulo TOWNS: 0 a is TOUCHED; "
                + "1 REROOTED at a; 2 they are LINKED with a LENGTH, a DRAW modulo 100, and 1, CAP 1, "
                + "if they don't hang together (no DRAW, if they do)");
        int linkings = 0;
        int cuts = 0;
        for (int n = 1; n <= 60; n++) {
            int seed = n * 7919;
            ChanceBounds apart = played(seed, n, false);
            ChanceBounds linked = played(seed, n, true);
            linkings += apart.linkings;
            cuts += linked.cuts;
            TownForest x = AskBounds.twoApart();
            TownForest y = Bounds.two();
            for (int what = 0; what < 4; what++) {
                Bounds.due("apart: chance(" + seed + ", " + n + ", " + what + ")", x.chance(seed, n, what), apart.answer(what));
                Bounds.due("linked: chance(" + seed + ", " + n + ", " + what + ")", y.chance(seed, n, what), linked.answer(what));
            }
        }
        Bounds.due("there were many linkings", linkings > 100 ? 1 : 0, 1);
        Bounds.says(TERMS, "3 the DEAREST of the WAY from a to b is CUT (its end nearer to a is the first), "
                + "if they hang together and are unlike.");
        Bounds.due("there were many cuts", cuts > 100 ? 1 : 0, 1);
    }

    /** More towns than two: lengths that were drawn decide where ways are cut. */
    private static void playsOfTheModel() {
        Bounds.says(40, "what 0 TREES then, 1 all SWITCHES in these, 2 POTENTIAL then, 3 the ROOT of TOWN 0 then");
        String[] texts = {"", Bounds.manyTowns(24), Bounds.longestText(), Bounds.manyTowns(5)};
        for (String text : texts) {
            for (int seed : SEEDS) {
                TownForest x = Bounds.told(text);
                TownModel model = new TownModel();
                feed(model, text);
                for (int n = 1; n <= 60; n += 59) {
                    for (int what = 0; what < 4; what++) {
                        Bounds.due("chance(" + seed + ", " + n + ", " + what + ") of " + text,
                                x.chance(seed, n, what), model.chance(seed, n, what));
                    }
                }
            }
        }
    }

    /** A drawn length is set against one that was told, so that one more or less would show. */
    private static void lengthsThatAreDrawn() {
        Bounds.says(TERMS, "2 they are LINKED with a LENGTH, a DRAW modulo 100, and 1");
        for (int told = 1; told <= 101; told += 10) {
            String text = Bounds.manyTowns(4) + "link a b " + told + " 1;link c d " + told + " 1;";
            TownForest x = Bounds.told(text);
            TownModel model = new TownModel();
            feed(model, text);
            for (int seed = 0; seed < 200; seed++) {
                int what = seed % 2 == 0 ? 1 : 3;
                Bounds.due("chance(" + seed + ", 20, " + what + ") of " + text,
                        x.chance(seed, 20, what), model.chance(seed, 20, what));
            }
        }
    }

    private static void feed(TownModel model, String text) {
        StringBuilder padded = new StringBuilder(text);
        while (padded.length() % 20 != 0) {
            padded.append(' ');
        }
        for (int at = 0; at < padded.length(); at += 20) {
            int[] five = new int[5];
            for (int i = 0; i < 20; i++) {
                five[i / 4] = five[i / 4] << 8 | padded.charAt(at + i);
            }
            model.feed(five[0], five[1], five[2], five[3], five[4]);
        }
        model.text(text.length());
    }

    // ---- promise 40

    private static void oneAlone() {
        Bounds.says(40, "BY CHANCE n 1 .. 60");
        int[] due = {1, 0, 0, 0};
        for (int what = 0; what < 4; what++) {
            int asked = what;
            Bounds.changesNothing("alone, least", Bounds::alone, x -> x.chance(5, 1, asked), due[what]);
            Bounds.changesNothing("alone, most", Bounds::alone, x -> x.chance(5, 60, asked), due[what]);
            Bounds.changesNothing("two, least", Bounds::two, x -> x.chance(5, 1, asked), played(5, 1, true).answer(what));
            Bounds.changesNothing("two, most", Bounds::two, x -> x.chance(5, 60, asked), played(5, 60, true).answer(what));
        }
        Bounds.changesNothing("lived", Bounds::lived, x -> x.chance(9, 60, 0), Bounds.lived().chance(9, 60, 0));
    }

    private static void switchesInTheseAlone() {
        Bounds.says(40, "1 all SWITCHES in these");
        TownForest x = Bounds.two();
        x.touch(1);
        x.touch(0);
        Bounds.due("switches ahead", x.count(4), 1);
        for (int n = 1; n <= 60; n++) {
            Bounds.due("chance(7, " + n + ", 1)", x.chance(7, n, 1), played(7, n, true).answer(1));
        }
        Bounds.due("switches behind", x.count(4), 1);
    }

    private static void lastSeedAndNumber() {
        Bounds.says(40, "from a seed 0 .. 2147483647 on");
        for (int seed : SEEDS) {
            for (int what = 0; what < 4; what++) {
                int due = played(seed, 60, false).answer(what);
                Bounds.due("chance(" + seed + ", 60, " + what + ")", AskBounds.twoApart().chance(seed, 60, what), due);
            }
        }
        Bounds.says(40, "(-1: that of the TEXT)");
        int[] told = {0, 1, 42, 99999};
        for (int seed : told) {
            for (int what = 0; what < 4; what++) {
                TownForest x = Bounds.told("town a 5;town b 7;seed " + seed + ";");
                Bounds.due("seed " + seed, x.chance(-1, 60, what), played(seed, 60, false).answer(what));
            }
        }
        Bounds.due("none told", AskBounds.twoApart().chance(-1, 60, 1), played(0, 60, false).answer(1));
    }

    private static void refused() {
        Bounds.says(40, "NONE: no such ones");
        for (int seed : new int[] {-2, -3, -99999, Bounds.LOWEST}) {
            Bounds.changesNothing("seed " + seed, Bounds::lived, x -> x.chance(seed, 1, 0), -1);
        }
        for (int n : new int[] {0, -1, Bounds.LOWEST, 61, 62, HIGHEST}) {
            Bounds.changesNothing("n " + n, Bounds::lived, x -> x.chance(1, n, 0), -1);
            Bounds.changesNothing("n " + n + " by the text's seed", Bounds::lived, x -> x.chance(-1, n, 0), -1);
        }
        for (int what : Bounds.outside(4)) {
            Bounds.changesNothing("what " + what, Bounds::lived, x -> x.chance(1, 1, what), -1);
        }
        Bounds.says(40, "there are no TOWNS.");
        for (int what = 0; what < 4; what++) {
            int asked = what;
            Bounds.changesNothing("new", Bounds::empty, x -> x.chance(1, 1, asked), -1);
            Bounds.changesNothing("new, by the text's seed", Bounds::empty, x -> x.chance(-1, 60, asked), -1);
            Bounds.changesNothing("a text without towns", () -> Bounds.told("seed 5;"), x -> x.chance(-1, 1, asked), -1);
        }
    }
}
