import java.util.Random;

/** Runs of calls by chance (always the same ones) on the class and on the model: the answers must agree. */
public final class ModelTest {
    private static final int RUNS = 400;
    /** The last feed may go some 40 calls beyond; the document tells of 512 calls an object. */
    private static final int CALLS = 460;
    private static final int TEXTS = 20000;

    private final Random random;
    private final TownForest forest = new TownForest();
    private final TownModel model = new TownModel();
    private int calls = 0;
    private String trace = "";

    private ModelTest(long seed) {
        random = new Random(seed);
    }

    public static void main(String[] args) {
        for (int run = 0; run < RUNS; run++) {
            new ModelTest(run).run(run);
        }
        ModelTest texts = new ModelTest(-1);
        for (int i = 0; i < TEXTS; i++) {
            texts.forestOfText(texts.spoiled(texts.text()));
        }
        Check.end("ModelTest");
    }

    private void run(int run) {
        trace = "run " + run;
        if (random.nextInt(10) > 0) {
            feed(text());
        }
        while (calls < CALLS) {
            if (random.nextInt(60) == 0) {
                feed(random.nextBoolean() ? text() : spoiled(text()));
            } else if (random.nextBoolean()) {
                doOne();
            } else {
                askOne();
            }
        }
    }

    /** Each text on new objects, for the faults alone. */
    private void forestOfText(String text) {
        TownForest x = new TownForest();
        TownModel y = new TownModel();
        for (int at = 0; at < text.length() && at < 700; at += 20) {
            int[] five = five(text, at);
            x.feed(five[0], five[1], five[2], five[3], five[4]);
            y.feed(five[0], five[1], five[2], five[3], five[4]);
        }
        String what = "text " + text.replace("\n", "\\n");
        Check.due(what, x.text(text.length()), y.text(text.length()));
        Check.due("fault(0) of " + what, x.fault(0), y.fault(0));
        Check.due("fault(1) of " + what, x.fault(1), y.fault(1));
        Check.due("count(3) of " + what, x.count(3), y.count(3));
        for (int t = 0; t < y.count(0); t++) {
            Check.due("parent after " + what, Check.town(x, t, 1), y.town(t, 1));
            Check.due("preferred after " + what, Check.town(x, t, 2), y.town(t, 2));
        }
    }

    private static int[] five(String text, int at) {
        int[] five = new int[5];
        for (int i = 0; i < 20; i++) {
            int sign = at + i < text.length() ? text.charAt(at + i) : ' ';
            five[i / 4] = five[i / 4] << 8 | sign;
        }
        return five;
    }

    private void feed(String text) {
        for (int at = 0; at < text.length(); at += 20) {
            int[] five = five(text, at);
            same("feed", forest.feed(five[0], five[1], five[2], five[3], five[4]),
                    model.feed(five[0], five[1], five[2], five[3], five[4]));
        }
        int n = random.nextInt(8) == 0 ? random.nextInt(720) - 5 : text.length();
        same("text(" + n + ")", forest.text(n), model.text(n));
        for (int what = -1; what <= 2; what++) {
            same("fault(" + what + ")", forest.fault(what), model.fault(what));
        }
    }

    private String blank() {
        return random.nextInt(12) == 0 ? random.nextBoolean() ? "\n" : "  " : " ";
    }

    /** Up to 24 towns with many links, each text of at most 700 signs. */
    private String text() {
        StringBuilder text = new StringBuilder();
        int towns = random.nextInt(4) == 0 ? 24 : random.nextInt(12);
        int[] group = new int[towns];
        for (int t = 0; t < towns; t++) {
            group[t] = t;
            text.append("town").append(blank()).append(name(t)).append(blank());
            text.append(random.nextInt(4) == 0 ? random.nextInt(19999) - 9999 : random.nextInt(10)).append(';');
        }
        int more = random.nextInt(40);
        boolean seeded = false;
        for (int i = 0; i < more && towns > 0; i++) {
            int a = random.nextInt(towns);
            int b = random.nextInt(towns);
            String line = "";
            if (random.nextInt(4) > 0) {
                if (group[a] != group[b]) {
                    int old = group[a];
                    for (int t = 0; t < towns; t++) {
                        group[t] = group[t] == old ? group[b] : group[t];
                    }
                    line = "link " + name(a) + " " + name(b) + " " + size() + " " + size() + ";";
                }
            } else if (!seeded && random.nextInt(5) == 0) {
                seeded = true;
                line = "seed" + blank() + random.nextInt(100000) + ";";
            } else {
                line = new String[] {"root", "touch", "settle"}[random.nextInt(3)] + blank() + name(a) + blank() + ";";
            }
            if (text.length() + line.length() > 690) {
                break;
            }
            text.append(line);
        }
        return text.length() > 700 ? "town a 1;" : text.toString();
    }

    private static String name(int t) {
        return t % 5 == 4 ? "x" + (char) ('a' + t) : "" + (char) ('a' + t);
    }

    private int size() {
        return random.nextInt(6) == 0 ? 1 + random.nextInt(9999) : 1 + random.nextInt(5);
    }

    /** A text with a few signs or words changed. */
    private String spoiled(String text) {
        StringBuilder s = new StringBuilder(text);
        String[] bits = {"a", "-", ";", "0", " ", "\n", "town", "seed 1;", "link a b 1 1;", "A", "9999", "-1", "zz",
            "abcdefg", "\u00e9", "root b;", "town n 5;", "seed", "settle", "\u0000"};
        for (int i = random.nextInt(3); i >= 0; i--) {
            int at = random.nextInt(s.length() + 1);
            switch (random.nextInt(4)) {
                case 0:
                    s.insert(at, bits[random.nextInt(bits.length)]);
                    break;
                case 1:
                    s.delete(at, Math.min(s.length(), at + 1 + random.nextInt(3)));
                    break;
                case 2:
                    s.replace(at, Math.min(s.length(), at + 1), bits[random.nextInt(bits.length)]);
                    break;
                default:
                    if (random.nextInt(4) == 0) {
                        s.setLength(at);
                    }
                    break;
            }
        }
        return s.length() > 700 ? s.substring(0, 700) : s.toString();
    }

    private void same(String call, int got, int want) {
        calls++;
        Check.due(trace + " call " + calls + " " + call, got, want);
    }

    /** Mostly a town that is there. */
    private int town() {
        int towns = model.count(0);
        return random.nextInt(30) == 0 || towns == 0 ? random.nextInt(28) - 2 : random.nextInt(towns);
    }

    private int number() {
        int[] edges = {0, 1, -1, 9999, 10000, -9999, -10000, Integer.MAX_VALUE, Integer.MIN_VALUE, 24, 25};
        return random.nextInt(8) == 0 ? edges[random.nextInt(edges.length)] : random.nextInt(12) - 3;
    }

    private int length() {
        return random.nextInt(12) == 0 ? number() : 1 + random.nextInt(6);
    }

    private void doOne() {
        int a = town();
        int b = town();
        int k = number();
        int l = length();
        int c = length();
        String args = "(" + a + ", " + b + ", " + k + ", " + l + ", " + c + ")";
        switch (random.nextInt(17)) {
            case 0: same("touch" + args, forest.touch(a), model.touch(a)); break;
            case 1: same("reroot" + args, forest.reroot(a), model.reroot(a)); break;
            case 2: case 3: case 4: same("link" + args, forest.link(a, b, l, c), model.link(a, b, l, c)); break;
            case 5: same("cut" + args, forest.cut(a, b), model.cut(a, b)); break;
            case 6: same("walk" + args, forest.walk(a, b), model.walk(a, b)); break;
            case 7: same("meet" + args, forest.meet(a, b), model.meet(a, b)); break;
            case 8: same("raise" + args, forest.raise(a, b, k), model.raise(a, b, k)); break;
            case 9: same("cutDearest" + args, forest.cutDearest(a, b), model.cutDearest(a, b)); break;
            case 10: same("send" + args, forest.send(a, b, k), model.send(a, b, k)); break;
            case 11: same("settle" + args, forest.settle(a), model.settle(a)); break;
            case 12: same("exchange" + args, forest.exchange(a, b, l, c), model.exchange(a, b, l, c)); break;
            case 13: same("shed" + args, forest.shed(a), model.shed(a)); break;
            case 14: same("value" + args, forest.value(a, k), model.value(a, k)); break;
            case 15:
                for (int i = random.nextInt(random.nextInt(25) + 1); i >= 0; i--) {
                    same("undo", forest.undo(), model.undo());
                }
                break;
            default:
                if (random.nextBoolean()) {
                    same("keep", forest.keep(), model.keep());
                } else {
                    same("back", forest.back(), model.back());
                }
                break;
        }
    }

    private void askOne() {
        int a = town();
        int b = town();
        int k = random.nextInt(20) == 0 ? number() : random.nextInt(10);
        int what = random.nextInt(30) == 0 ? number() : random.nextInt(4);
        String args = "(" + a + ", " + b + ", " + k + ", " + what + ")";
        switch (random.nextInt(28)) {
            case 0: same("named", forest.named(Check.letters(name(k & 31))), model.named(Check.letters(name(k & 31)))); break;
            case 1: same("seen" + args, forest.seen(k), model.seen(k)); break;
            case 2: case 3: case 4: same("town" + args, Check.town(forest, a, k), model.town(a, k)); break;
            case 5: same("chain" + args, forest.chain(a, k % 6), model.chain(a, k % 6)); break;
            case 6: same("above" + args, forest.above(a, k), model.above(a, k)); break;
            case 7: same("along" + args, forest.along(a, b, k), model.along(a, b, k)); break;
            case 8: same("together" + args, forest.together(a, b), model.together(a, b)); break;
            case 9: same("far" + args, forest.far(a, b), model.far(a, b)); break;
            case 10: same("meets" + args, forest.meets(a, b), model.meets(a, b)); break;
            case 11: same("room" + args, forest.room(a, b), model.room(a, b)); break;
            case 12: same("order" + args, forest.order(a, k), model.order(a, k)); break;
            case 13: same("place" + args, forest.place(a), model.place(a)); break;
            case 14: same("joint" + args, forest.joint(a, b, what), model.joint(a, b, what)); break;
            case 15: same("tightest" + args, forest.tightest(a), model.tightest(a)); break;
            case 16: same("heavy" + args, forest.heavy(a), model.heavy(a)); break;
            case 17: same("potential", forest.potential(), model.potential()); break;
            case 18: same("would" + args, forest.would(a), model.would(a)); break;
            case 19: same("widest" + args, forest.widest(a, what), model.widest(a, what)); break;
            case 20: same("midst" + args, forest.midst(a), model.midst(a)); break;
            case 21: same("parts" + args, forest.parts(k), model.parts(k)); break;
            case 22: same("dearest" + args, forest.dearest(a), model.dearest(a)); break;
            case 23: same("leastFor" + args, forest.leastFor(k), model.leastFor(k)); break;
            case 24: case 25: same("count" + args, forest.count(k), model.count(k)); break;
            case 26: askChance(); break;
            default: same("count(4)", forest.count(4), model.count(4)); break;
        }
    }

    /** It changes nothing; what the calls behind it answer would tell. */
    private void askChance() {
        int seed = random.nextInt(4) == 0 ? -1 : random.nextInt();
        int n = random.nextInt(10) == 0 ? number() : 1 + random.nextInt(60);
        int what = random.nextInt(5);
        same("chance(" + seed + ", " + n + ", " + what + ")", forest.chance(seed, n, what), model.chance(seed, n, what));
    }
}
