/** What the tests share: they count answers that are not the ones due. */
final class Check {
    private static int looked = 0;
    private static int wrong = 0;

    private Check() {
    }

    static void due(String what, long got, long want) {
        looked++;
        if (got != want) {
            wrong++;
            if (wrong <= 40) {
                System.out.println(what + " answered " + got + ", due is " + want);
            }
        }
    }

    static void dueRow(String what, int[] got, int... want) {
        due(what + " (how many)", got.length, want.length);
        for (int i = 0; i < got.length && i < want.length; i++) {
            due(what + " [" + i + "]", got[i], want[i]);
        }
    }

    /** Feeds a text, blanks behind it up to twenty bytes, and has it told. */
    static int tell(TownForest x, String text) {
        feed(x, text);
        return x.text(text.length());
    }

    static void feed(TownForest x, String text) {
        for (int at = 0; at < text.length(); at += 20) {
            x.feed(four(text, at), four(text, at + 4), four(text, at + 8), four(text, at + 12), four(text, at + 16));
        }
    }

    private static int four(String text, int at) {
        int number = 0;
        for (int i = at; i < at + 4; i++) {
            number = number << 8 | (i < text.length() ? text.charAt(i) & 255 : ' ');
        }
        return number;
    }

    static int letters(String name) {
        int number = 0;
        for (int i = 0; i < 6; i++) {
            number = number << 5 | (i < name.length() ? name.charAt(i) - 96 : 0);
        }
        return number;
    }

    /** The answer of town(), or 1000001, 1000002 for its two exceptions, 1000003 for any other. */
    static int town(TownForest x, int town, int what) {
        try {
            return x.town(town, what);
        } catch (IndexOutOfBoundsException e) {
            return e.getClass() == IndexOutOfBoundsException.class ? 1000001 : 1000003;
        } catch (java.util.NoSuchElementException e) {
            return e.getClass() == java.util.NoSuchElementException.class ? 1000002 : 1000003;
        } catch (RuntimeException e) {
            return 1000003;
        }
    }

    /** One fact of all towns, from the first on. */
    static int[] facts(TownForest x, int what) {
        int[] row = new int[x.count(0)];
        for (int t = 0; t < row.length; t++) {
            row[t] = town(x, t, what);
        }
        return row;
    }

    static void end(String name) {
        System.out.println(name + ": " + looked + " answers, " + wrong + " wrong");
        if (wrong != 0 || looked == 0) {
            System.exit(1);
        }
    }
}
