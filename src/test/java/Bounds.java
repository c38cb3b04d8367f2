import java.io.IOException;
import java.nio.file.Files;
import java.nio.file.Path;

/** What the tests of the boundary cases share: each names the words of the document that it looks after. */
final class Bounds {
    /** The document's section of terms; its other sections here are those of promises 1 to 44. */
    static final int TERMS = 0;
    static final int LOWEST = Integer.MIN_VALUE;
    static final int HIGHEST = Integer.MAX_VALUE;
    static final int NO_TOWN = 1000001;
    static final int NO_WHAT = 1000002;

    private static final int PROMISES = 44;
    private static final String[] SECTIONS = new String[PROMISES + 1];
    private static final boolean[][] QUOTED = new boolean[PROMISES + 1][];
    private static String label = "";

    private Bounds() {
    }

    /** A call with its arguments. */
    interface Call {
        int on(TownForest x);
    }

    /** A call of which a town is still open. */
    interface TownCall {
        int on(TownForest x, int town);
    }

    /** A call of which two towns are still open. */
    interface PairCall {
        int on(TownForest x, int a, int b);
    }

    /** How an object comes to be; every time the same. */
    interface Maker {
        TownForest make();
    }

    // ---- the words of the document

    static void open() throws IOException {
        String document = Files.readString(Path.of("../shared/DOC.md")).replaceAll("\\s+", " ");
        for (int i = 0; i <= PROMISES; i++) {
            String head = i == TERMS ? "## Terms " : "## Promise " + i + ": ";
            int from = document.indexOf(head) + head.length();
            String section = document.substring(from, document.indexOf("## ", from));
            SECTIONS[i] = i == TERMS ? section : section.substring(section.indexOf("`: ") + 3);
            QUOTED[i] = new boolean[SECTIONS[i].length()];
        }
    }

    /** What is looked at from here on is what these words of the document say. */
    static void says(int section, String words) {
        label = (section == TERMS ? "Terms" : "Promise " + section) + " \"" + words + "\": ";
        int at = SECTIONS[section].indexOf(words);
        Check.due(label + "stands in the document", at >= 0 ? 1 : 0, 1);
        while (at >= 0) {
            java.util.Arrays.fill(QUOTED[section], at, at + words.length(), true);
            at = SECTIONS[section].indexOf(words, at + 1);
        }
    }

    /** No part of a sentence of the terms or of a promise may be left without a test. */
    static void everyPartIsQuoted() {
        for (int i = 0; i <= PROMISES; i++) {
            int from = 0;
            for (String part : SECTIONS[i].split("(?<=[;:,()])|(?<=[^.]\\.)(?= )")) {
                // The marks of the document itself say nothing.
                boolean quoted = !part.replaceAll("```(text)?|==== \\d\\.", "").matches(".*[A-Za-z0-9].*");
                for (int at = from; at < from + part.length(); at++) {
                    quoted |= QUOTED[i][at];
                }
                Check.due("section " + i + ": a test of \"" + part + "\"", quoted ? 1 : 0, 1);
                from += part.length();
            }
        }
    }

    // ---- forests

    /**
     * a(0) over b(1) over c(2), d(3) over e(4); f(5) over g(6).
     * Lengths b 10, c 20, d 5, e 7, g 3; caps 5, 4, 9, 7, 8; preferred: a b, b d.
     */
    static TownForest base() {
        return told("town a 1;town b 2;town c 3;town d 4;town e 5;town f 6;town g 7;"
                + "link b a 10 5;link c b 20 4;link d b 5 9;link e d 7 7;link g f 3 8;seed 42;");
    }

    /**
     * With something of all there is: a fault, something seen, an image, three steps to undo, 20 bytes.
     * Over base(): c(2) over b(1) over a(0), d(3) over e(4); f(5) over g(6); preferred: c b, b d.
     */
    static TownForest lived() {
        TownForest x = base();
        Check.tell(x, "town");
        x.walk(2, 4);
        x.keep();
        x.touch(3);
        x.value(0, 55);
        Check.feed(x, "town zz 7;root zz;  ");
        return x;
    }

    static TownForest empty() {
        return new TownForest();
    }

    static TownForest alone() {
        return told("town a 5;");
    }

    /** a(0) over b(1), length 4, cap 6; nothing preferred. */
    static TownForest two() {
        return told("town a 5;town b 7;link b a 4 6;");
    }

    /** a(0) over b(1) over c(2) over d(3), all lengths 4, all caps 6; preferred: a b, b c. */
    static TownForest row() {
        return told("town a 0;town b 0;town c 0;town d 0;link b a 4 6;link c b 4 6;link d c 4 6;");
    }

    /** b(1), c(2), d(3) beneath a(0), all lengths 4, all caps 6; nothing preferred. */
    static TownForest star() {
        return told("town a 0;town b 0;town c 0;town d 0;link b a 4 6;link c a 4 6;link d a 4 6;touch a;");
    }

    /** 24 towns, each of value 2 and a tree of its own. */
    static TownForest full() {
        return told(manyTowns(24));
    }

    /** 24 towns, each beneath the one ahead, all lengths 3, all caps 4; each but the last two prefers the next. */
    static TownForest longest() {
        return told(longestText());
    }

    static String manyTowns(int towns) {
        StringBuilder text = new StringBuilder();
        for (int i = 0; i < towns; i++) {
            text.append("town ").append((char) ('a' + i)).append(" 2;");
        }
        return text.toString();
    }

    static String longestText() {
        StringBuilder text = new StringBuilder(manyTowns(24));
        for (int i = 1; i < 24; i++) {
            text.append("link ").append((char) ('a' + i)).append(' ').append((char) ('a' + i - 1)).append(" 3 4;");
        }
        return text.toString();
    }

    static TownForest told(String text) {
        TownForest x = new TownForest();
        int lines = text.length() - text.replace(";", "").length();
        due("text " + text, Check.tell(x, text), lines);
        return x;
    }

    // ---- what is looked at

    static void due(String what, long got, long want) {
        Check.due(label + what, got, want);
    }

    static void dueRow(String what, int[] got, int... want) {
        Check.dueRow(label + what, got, want);
    }

    /** A call that is done: it is one step more to undo, and undone all towns are as they were. */
    static void done(String what, Maker maker, Call call, int want) {
        TownForest x = maker.make();
        TownForest twin = maker.make();
        int steps = x.count(5);
        due(what, call.on(x), want);
        due(what + " can be undone", x.count(5), Math.min(steps + 1, 20));
        due(what + " is undone", x.undo(), Math.min(steps, 19));
        dueRow(what + ", undone", towns(x), towns(twin));
    }

    /** A call that is refused or only asks: all is as without it. */
    static void changesNothing(String what, Maker maker, Call call, int want) {
        TownForest x = maker.make();
        TownForest twin = maker.make();
        due(what, call.on(x), want);
        alike(what, x, twin);
    }

    /** All that is told of two objects, and what undo(), back() and text() then make of them. */
    static void alike(String what, TownForest x, TownForest twin) {
        dueRow(what + ", then all that is told", all(x), all(twin));
        due(what + ", then undo()", x.undo(), twin.undo());
        dueRow(what + ", then towns behind undo()", towns(x), towns(twin));
        due(what + ", then back()", x.back(), twin.back());
        dueRow(what + ", then towns behind back()", towns(x), towns(twin));
        due(what + ", then text()", x.text(x.count(6)), twin.text(twin.count(6)));
        due(what + ", then towns of the tape", x.count(0), twin.count(0));
    }

    /** keep() changes the image and nothing else. */
    static void changesImageAlone(String what, Maker maker, int trees) {
        TownForest x = maker.make();
        TownForest twin = maker.make();
        due(what, x.keep(), trees);
        dueRow(what + ", then all that is told", all(x), all(twin));
        due(what + ", then back()", x.back(), trees);
        dueRow(what + ", then towns", towns(x), towns(twin));
    }

    static int[] towns(TownForest x) {
        int[] facts = {0, 1, 2, 7, 8};
        int count = x.count(0);
        int[] row = new int[1 + count * facts.length];
        row[0] = x.count(4);
        for (int i = 0; i < count * facts.length; i++) {
            row[i + 1] = Check.town(x, i / facts.length, facts[i % facts.length]);
        }
        return row;
    }

    private static int[] all(TownForest x) {
        int[] towns = towns(x);
        int[] row = java.util.Arrays.copyOf(towns, towns.length + 21);
        int at = towns.length;
        for (int what = 0; what < 7; what++) {
            row[at++] = x.count(what);
        }
        for (int what = 0; what < 9; what++) {
            row[at++] = x.seen(what);
        }
        row[at++] = x.fault(0);
        row[at++] = x.fault(1);
        row[at++] = x.named(Check.letters("a"));
        row[at++] = x.chance(-1, 60, 1);
        row[at] = x.chance(-1, 9, 3);
        return row;
    }

    /** Numbers that are below 0 or not below the count of what there is. */
    static int[] outside(int count) {
        return new int[] {-1, -2, LOWEST, count, count + 1, count + 255, HIGHEST};
    }

    static void noSuchTown(String name, TownCall call, int want) {
        for (int t : outside(7)) {
            changesNothing(name + " of town " + t, Bounds::lived, x -> call.on(x, t), want);
        }
        changesNothing(name + " of town 24 of 24", Bounds::full, x -> call.on(x, 24), want);
        changesNothing(name + " of town 1 of 1", Bounds::alone, x -> call.on(x, 1), want);
        changesNothing(name + " of town 0 of none", Bounds::empty, x -> call.on(x, 0), want);
    }

    static void noSuchPair(String name, PairCall call, int want) {
        noSuchTown(name + ", the first,", (x, t) -> call.on(x, t, 0), want);
        noSuchTown(name + ", the second,", (x, t) -> call.on(x, 0, t), want);
        noSuchTown(name + ", both,", (x, t) -> call.on(x, t, t), want);
    }
}
