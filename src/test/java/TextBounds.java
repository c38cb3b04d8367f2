/** Boundary cases of the tape, of texts and their faults, and of names: ==== 1, promises 1 to 5. */
final class TextBounds {
    private static final int TERMS = Bounds.TERMS;
    private static final String TWO = "town a 1;town b 1;";
    private static final String[] WORDS = {"town", "link", "root", "touch", "settle", "seed"};

    private TextBounds() {
    }

    static void run() {
        textsAndLines();
        partsOfLines();
        words();
        names();
        wordsOfTheLanguage();
        numbers();
        numbersWithSign();
        blanks();
        mostTowns();
        valuesTold();
        numbered();
        linksTold();
        deedsTold();
        linesAsTheyCome();
        seeds();
        firstFault();
        leastFault();
        places();
        noTokens();
        longWords();
        signAlone();
        wrongTokens();
        moreMustCome();
        signWhereNoneMayBe();
        tooMuch();
        toldAlready();
        notToldAhead();
        newObject();
        feeding();
        telling();
        toldWithFault();
        toldTooMuch();
        faults();
        lettersOfNames();
    }

    private static TownForest lines(String text, int want) {
        TownForest x = new TownForest();
        Bounds.due("text " + text, Check.tell(x, text), want);
        Bounds.due("no fault of " + text, x.fault(0), 0);
        Bounds.due("no place of " + text, x.fault(1), -1);
        return x;
    }

    private static void fault(String text, int fault, int place) {
        TownForest x = new TownForest();
        Bounds.due("text " + text, Check.tell(x, text), -1);
        Bounds.due("fault of " + text, x.fault(0), fault);
        Bounds.due("place of " + text, x.fault(1), place);
        Bounds.due("towns of " + text, x.count(0), 0);
    }

    /** The fault is where the word or sign stands for the last time. */
    private static void faultAtLast(String text, int fault, String sign) {
        fault(text, fault, text.lastIndexOf(sign));
    }

    private static String times(String text, int n) {
        return text.repeat(n);
    }

    // ---- ==== 1: the text

    private static void textsAndLines() {
        Bounds.says(TERMS, "A TEXT: { LINE ';' }.");
        lines("", 0);
        lines(" ", 0);
        lines("\n \n", 0);
        lines("town a 1;", 1);
        lines(TWO, 2);
        fault("town a 1", 1, 8);
        fault(TWO + "root a", 1, 24);
        fault(";", 1, 0);
        fault(" ;", 1, 1);
        fault("town a 1;;", 1, 9);
    }

    private static void partsOfLines() {
        Bounds.says(TERMS, "LINE: town W M | link W W N N | root W | touch W | settle W | seed N.");
        lines(TWO + "link a b 1 1;root a;touch b;settle a;seed 1;", 7);
        fault("town;", 1, 4);
        fault("town 1;", 1, 5);
        fault("town a;", 1, 6);
        fault("town a b 1;", 1, 7);
        fault("town a 1 1;", 1, 9);
        fault(TWO + "link;", 1, 22);
        fault(TWO + "link 1 a b 1;", 1, 23);
        fault(TWO + "link a;", 1, 24);
        fault(TWO + "link a 1 1;", 1, 25);
        fault(TWO + "link a b;", 1, 26);
        fault(TWO + "link a b a 1;", 1, 27);
        fault(TWO + "link a b 1;", 1, 28);
        fault(TWO + "link a b 1 a;", 1, 29);
        fault(TWO + "link a b 1 1 1;", 1, 31);
        for (String word : new String[] {"root", "touch", "settle"}) {
            faultAtLast(TWO + word + ";", 1, ";");
            faultAtLast(TWO + word + " 1;", 1, "1");
            faultAtLast(TWO + word + " a 7;", 1, "7");
            faultAtLast(TWO + word + " a b;", 1, "b");
        }
        fault("seed;", 1, 4);
        fault("seed a;", 1, 5);
        fault("seed 1 1;", 1, 7);
        fault("seed 1 a;", 1, 7);
        fault("1;", 1, 0);
        fault("a 1;", 1, 0);
        fault("tow a 1;", 1, 0);
        fault("towns a 1;", 1, 0);
    }

    private static void words() {
        Bounds.says(TERMS, "Words: small letters in a row");
        TownForest x = lines("town az 1;town zaz 2;touch az;", 3);
        Bounds.due("named az", x.named(Check.letters("az")), 0);
        Bounds.due("named zaz", x.named(Check.letters("zaz")), 1);
        for (char aside : new char[] {'`', '{', 'A', 'Z', '_', (char) ('a' + 128), (char) ('z' + 128)}) {
            fault("town " + aside + " 1;", 1, 5);
            fault("town a" + aside + " 1;", 1, 6);
        }
        fault("Town a 1;", 1, 0);
        fault("to wn a 1;", 1, 0);
        fault("town a b 1;", 1, 7);
    }

    private static void names() {
        Bounds.says(TERMS, "W: one of 1 .. 6 letters");
        TownForest x = lines("town a 1;town abcdef 2;touch abcdef;touch a;", 4);
        Bounds.due("named abcdef", x.named(Check.letters("abcdef")), 1);
        fault("town abcdefg 1;", 1, 5);
        fault("town  1;", 1, 6);
        fault("town abcdef 1;touch abcdefg;", 1, 20);
        fault("town abcdef 1;link abcdefg abcdef 1 1;", 1, 19);
        fault("town abcdef 1;link abcdef abcdefg 1 1;", 1, 26);
    }

    private static void wordsOfTheLanguage() {
        Bounds.says(TERMS, "none of those of the language");
        for (String word : WORDS) {
            fault("town " + word + " 1;", 1, 5);
            fault("town a 1;link " + word + " a 1 1;", 1, 14);
            fault("town a 1;link a " + word + " 1 1;", 1, 16);
            fault("root " + word + ";", 1, 5);
            fault("touch " + word + ";", 1, 6);
            fault("settle " + word + ";", 1, 7);
        }
        lines("town towns 1;town tow 1;town links 1;town roots 1;town touchs 1;town settl 1;town seeds 1;", 7);
    }

    private static void numbers() {
        Bounds.says(TERMS, "N: digits");
        lines("seed 0;", 1);
        lines("seed 98765;", 1);
        lines(TWO + "link a b 0001 0009;", 3);
        fault("seed /;", 1, 5);
        fault("seed :;", 1, 5);
        fault("seed 1/;", 1, 6);
        fault("seed 1:;", 1, 6);
        fault("seed " + (char) ('0' + 128) + ";", 1, 5);
        fault("seed +1;", 1, 5);
        fault("seed 1.0;", 1, 6);
    }

    private static void numbersWithSign() {
        Bounds.says(TERMS, "M: digits, '-' right ahead of them or none.");
        TownForest x = lines("town a -5;town b 5;town c -0;town d -0009;", 4);
        Bounds.dueRow("values", Check.facts(x, 0), -5, 5, 0, -9);
        fault("town a - 5;", 1, 7);
        fault("town a -\n5;", 1, 7);
        fault("town a --5;", 1, 7);
        fault("town a +5;", 1, 7);
        fault("town a 5-;", 1, 8);
        fault("town a 5 -5;", 1, 9);
        fault("town a ;", 1, 7);
    }

    private static void blanks() {
        Bounds.says(TERMS, "Blanks 10, 32.");
        TownForest x = lines("\n town\n\na  -5 \n;\n \n", 1);
        Bounds.due("value", x.town(0, 0), -5);
        for (int sign : new int[] {0, 8, 9, 11, 12, 13, 31, 33, 138, 160, 255}) {
            fault((char) sign + "town a 1;", 1, 0);
            fault("town" + (char) sign + "a 1;", 1, 4);
            fault("town a 1" + (char) sign + ";", 1, 8);
            fault("town a 1;" + (char) sign, 1, 9);
        }
    }

    private static void mostTowns() {
        Bounds.says(TERMS, "town, at most 24: name");
        TownForest x = lines(Bounds.manyTowns(24), 24);
        Bounds.due("count(0)", x.count(0), 24);
        Bounds.due("the last one", x.named(Check.letters("x")), 23);
        Bounds.due("touch(23)", x.touch(23), 0);
        Bounds.due("touch(24)", x.touch(24), -1);
        fault(Bounds.manyTowns(25), 2, 216);
        Bounds.says(TERMS, "a 25th town (at the word of the LINE)");
        fault(Bounds.manyTowns(24) + "town", 2, 216);
        fault(Bounds.manyTowns(24) + "\n town y 1;", 2, 218);
        fault(Bounds.manyTowns(24) + "town a 1;", 2, 216);
        fault(Bounds.manyTowns(24) + "town A 1;", 2, 216);
        fault(Bounds.manyTowns(24) + "town y 10000;", 2, 216);
        fault(Bounds.manyTowns(24) + "towns y 1;", 1, 216);
        fault(Bounds.manyTowns(24) + "touch y;town y 1;", 4, 222);
        lines(Bounds.manyTowns(24) + "seed 1;touch x;", 26);
    }

    private static void valuesTold() {
        Bounds.says(TERMS, "VALUE -9999 .. 9999");
        TownForest x = lines("town a -9999;town b 9999;town c 0;", 3);
        Bounds.dueRow("values", Check.facts(x, 0), -9999, 9999, 0);
        fault("town a 10000;", 2, 7);
        fault("town a -10000;", 2, 7);
        fault("town a 99990;", 2, 7);
        fault("town a 1;town b -99990;", 2, 16);
    }

    private static void numbered() {
        Bounds.says(TERMS, "numbered from 0 on as they come.");
        TownForest x = lines("town b 1;seed 1;town a 2;link a b 1 1;town c 3;", 5);
        Bounds.due("b", x.named(Check.letters("b")), 0);
        Bounds.due("a", x.named(Check.letters("a")), 1);
        Bounds.due("c", x.named(Check.letters("c")), 2);
        Bounds.dueRow("values", Check.facts(x, 0), 1, 2, 3);
    }

    private static void linksTold() {
        Bounds.says(TERMS, "link: LINKED are two TOWNS that don't hang together");
        TownForest x = lines(TWO + "town c 1;link a b 1 1;link b c 1 1;", 5);
        Bounds.dueRow("parents", Check.facts(x, 1), 1, 2, -2);
        fault(TWO + "town c 1;link a b 1 1;link b c 1 1;link a c 1 1;", 3, 60);
        Bounds.says(TERMS, "LENGTH 1 .. 9999");
        Bounds.due("least", lines(TWO + "link a b 1 5;", 3).town(0, 7), 1);
        Bounds.due("most", lines(TWO + "link a b 9999 5;", 3).town(0, 7), 9999);
        fault(TWO + "link a b 0 5;", 2, 27);
        fault(TWO + "link a b 10000 5;", 2, 27);
        Bounds.says(TERMS, "CAP 1 .. 9999.");
        Bounds.due("least", lines(TWO + "link a b 5 1;", 3).town(0, 8), 1);
        Bounds.due("most", lines(TWO + "link a b 5 9999;", 3).town(0, 8), 9999);
        fault(TWO + "link a b 5 0;", 2, 29);
        fault(TWO + "link a b 5 10000;", 2, 29);
    }

    private static void deedsTold() {
        String row = TWO + "town c 1;link b a 1 1;link c b 1 1;";
        Bounds.says(TERMS, "root: a TOWN, REROOTED.");
        TownForest x = lines(row + "root c;", 6);
        Bounds.dueRow("parents", Check.facts(x, 1), 1, 2, -2);
        Bounds.dueRow("preferred", Check.facts(x, 2), -2, 0, 1);
        Bounds.due("the root itself", lines(row + "root a;", 6).town(0, 2), -2);
        Bounds.due("alone", lines("town a 1;root a;", 2).town(0, 1), -2);
        Bounds.says(TERMS, "touch: a TOWN, TOUCHED.");
        Bounds.dueRow("preferred", Check.facts(lines(row + "touch c;", 6), 2), 1, 2, -2);
        Bounds.dueRow("the root", Check.facts(lines(row + "touch a;", 6), 2), -2, -2, -2);
        Bounds.due("alone", lines("town a 1;touch a;", 2).town(0, 2), -2);
        Bounds.says(TERMS, "settle: the TREE of a TOWN, SETTLED.");
        Bounds.dueRow("preferred", Check.facts(lines(row + "touch a;settle c;", 7), 2), 1, -2, -2);
        Bounds.dueRow("none any more", Check.facts(lines(row + "touch c;settle b;", 7), 2), 1, -2, -2);
        Bounds.due("alone", lines("town a 1;settle a;", 2).town(0, 2), -2);
    }

    private static void linesAsTheyCome() {
        Bounds.says(TERMS, "LINES are done as they come.");
        Bounds.dueRow("linked, rerooted", Check.facts(lines(TWO + "link a b 1 1;root a;", 4), 1), -2, 0);
        Bounds.dueRow("rerooted, linked", Check.facts(lines(TWO + "root a;link a b 1 1;", 4), 1), 1, -2);
        Bounds.dueRow("touched, settled", Check.facts(lines(TWO + "link a b 1 1;touch a;settle a;", 5), 2), -2, -2);
        Bounds.dueRow("settled, touched", Check.facts(lines(TWO + "link a b 1 1;settle a;touch a;", 5), 2), -2, 0);
        fault("root a;town a 1;", 4, 5);
    }

    private static void seeds() {
        Bounds.says(TERMS, "seed: 0 .. 99999 (0).");
        String links = "town a 1;town b 2;town c 3;town d 4;town e 5;link b a 1 1;link c b 1 1;";
        int none = Bounds.told(links).chance(0, 60, 1);
        int least = Bounds.told(links).chance(1, 60, 1);
        int most = Bounds.told(links).chance(99999, 60, 1);
        Bounds.due("the three seeds are told apart", none != least && least != most && none != most ? 1 : 0, 1);
        Bounds.due("without a seed", lines(links, 7).chance(-1, 60, 1), none);
        Bounds.due("seed 0", lines(links + "seed 0;", 8).chance(-1, 60, 1), none);
        Bounds.due("seed 1", lines("seed 1;" + links, 8).chance(-1, 60, 1), least);
        Bounds.due("seed 99999", lines(links + "seed 99999;", 8).chance(-1, 60, 1), most);
        Bounds.due("seed 099999", lines(links + "seed 099999;", 8).chance(-1, 60, 1), most);
        fault("seed 100000;", 2, 5);
        fault("seed 999990;", 2, 5);
        TownForest x = Bounds.told(links + "seed 99999;");
        Check.tell(x, links);
        Bounds.due("a seed ends with its text", x.chance(-1, 60, 1), none);
    }

    // ---- ==== 1: faults

    private static void firstFault() {
        Bounds.says(TERMS, "FAULTS, the first along the text");
        fault("town A 1;town a 10000;", 1, 5);
        fault("town a 10000;town A 1;", 2, 7);
        fault("touch z;town A 1;", 4, 6);
        fault("town a 1;town a 10000;", 3, 14);
        fault("town a 1;town a", 3, 14);
        fault("town a 1;link a a 0 0", 3, 16);
        fault("town a 1;link z a 0 0", 4, 14);
        fault("town a 1;link a z 0 0", 4, 16);
        fault(TWO + "link a b 0 0", 2, 27);
        fault(TWO + "link a b 1 0", 2, 29);
        fault("seed 1;seed -;", 3, 7);
        fault("seed 100000", 2, 5);
        fault("town a 10000", 2, 7);
    }

    private static void leastFault() {
        Bounds.says(TERMS, "(of one place the least)");
        fault("seed -100000;", 1, 5);
        fault(TWO + "link a b -1 1;", 1, 27);
        fault(TWO + "link a b 1 -10000;", 1, 29);
        fault("touch abcdefg;", 1, 6);
        fault("touch settle;", 1, 6);
        fault("town a 1;link a abcdefg 1 1;", 1, 16);
    }

    private static void places() {
        Bounds.says(TERMS, "with its place");
        fault("#", 1, 0);
        fault("\n\n#", 1, 2);
        lines(times(" ", 700), 0);
        fault(times(" ", 699) + "#", 1, 699);
        fault(times("\n", 699) + ";", 1, 699);
        fault("town" + times(" ", 696), 1, 700);
        fault("town a " + times(" ", 688) + "10000", 2, 695);
    }

    private static void noTokens() {
        Bounds.says(TERMS, "1 a TOKEN that is none");
        for (int sign = 0; sign < 256; sign++) {
            String text = "" + (char) sign;
            boolean blank = sign == 10 || sign == 32;
            if (blank) {
                lines(text, 0);
            } else {
                fault(text, 1, 0);
            }
            boolean known = blank || sign == ';' || sign >= '0' && sign <= '9' || sign >= 'a' && sign <= 'z';
            if (!known) {
                fault("town a 1" + text + ";", 1, 8);
                fault("town a" + text + ";", 1, 6);
            }
        }
    }

    private static void longWords() {
        Bounds.says(TERMS, "(a word of more than 6 letters that isn't of the language");
        fault("settles a;", 1, 0);
        fault("townlink a 1;", 1, 0);
        fault("town settles 1;", 1, 5);
        fault("town " + times("a", 695), 1, 5);
        fault("town abcdef 1;touch abcdefa;", 1, 20);
        lines("town abcdef 1;settle abcdef;", 2);
    }

    private static void signAlone() {
        Bounds.says(TERMS, "'-' without a digit behind it, too)");
        fault("-", 1, 0);
        fault("town a -;", 1, 7);
        fault("town a -", 1, 7);
        fault("town a -a;", 1, 7);
        fault("town a - 1;", 1, 7);
        fault("seed -;", 1, 5);
        fault("town -a 1;", 1, 5);
        // What is beyond the text's bytes is not behind it.
        TownForest x = new TownForest();
        Check.feed(x, "town a -1;");
        Bounds.due("text cut behind '-'", x.text(8), -1);
        Bounds.due("its place", x.fault(1), 7);
    }

    private static void wrongTokens() {
        Bounds.says(TERMS, "or can't stand there");
        fault("-1;", 1, 0);
        fault("town -1;", 1, 5);
        fault("town town 1;", 1, 5);
        fault("town a seed;", 1, 7);
        fault("town a 1 seed 1;", 1, 9);
        fault(TWO + "link a b ; 1;", 1, 27);
        fault(TWO + "link a b 1 seed;", 1, 29);
        fault("town a 1;touch -1;", 1, 15);
        fault("town a 1;touch ;", 1, 15);
    }

    private static void moreMustCome() {
        Bounds.says(TERMS, "(the length, if more must come");
        String[] lines = {"town c 1;", "link a b 1 1;", "root a;", "touch a;", "settle a;", "seed 1;"};
        for (String line : lines) {
            for (int end = 1; end < line.length(); end++) {
                boolean behindToken = line.charAt(end) == ' ' || line.charAt(end) == ';' || line.charAt(end - 1) == ' ';
                if (behindToken) {
                    String text = TWO + line.substring(0, end);
                    fault(text, 1, text.length());
                    fault(text + " \n ", 1, text.length() + 3);
                }
            }
            Bounds.due("whole", lines(TWO + line, 3).count(6), 0);
        }
        // The tape has more bytes than the text: they don't count.
        TownForest x = new TownForest();
        Check.feed(x, "town a 1;");
        Bounds.due("text(8)", x.text(8), -1);
        Bounds.due("fault(0)", x.fault(0), 1);
        Bounds.due("fault(1)", x.fault(1), 8);
    }

    private static void signWhereNoneMayBe() {
        Bounds.says(TERMS, "a '-' where N must be)");
        fault("seed -1;", 1, 5);
        fault("seed -0;", 1, 5);
        fault(TWO + "link a b -1 1;", 1, 27);
        fault(TWO + "link a b 1 -1;", 1, 29);
    }

    private static void tooMuch() {
        Bounds.says(TERMS, "2 too much (at it): a number beyond what is said");
        String[] wraps = {"2147483648", "2147483649", "4294967296", "4294967297", "4294977295", "9223372036854775809",
            "18446744073709551616", "18446744073709551617", times("9", 400), "1" + times("0", 300)};
        for (String number : wraps) {
            fault("town a " + number + ";", 2, 7);
            fault("town a -" + number + ";", 2, 7);
            fault("seed " + number + ";", 2, 5);
            fault(TWO + "link a b " + number + " 1;", 2, 27);
            fault(TWO + "link a b 1 " + number + ";", 2, 29);
        }
        Bounds.due("zeros ahead are not much", lines("town a " + times("0", 300) + "9999;", 1).town(0, 0), 9999);
        fault("town a " + times("0", 300) + "10000;", 2, 7);
        fault("seed " + times("0", 300) + "100000;", 2, 5);
        fault(TWO + "link a b 000 1;", 2, 27);
    }

    private static void toldAlready() {
        Bounds.says(TERMS, "3 told already: a name (at W)");
        fault("town a 1;town a 1;", 3, 14);
        fault("town abcdef 1;town a 1;town abcdef 2;", 3, 28);
        lines("town a 1;town aa 1;town ab 1;town b 1;", 4);
        Bounds.says(TERMS, "seed (at the word)");
        fault("seed 1;seed 1;", 3, 7);
        fault("seed 0;seed 0;", 3, 7);
        faultAtLast("seed 1;town a 1;\n seed 2;", 3, "seed");
        Bounds.says(TERMS, "two TOWNS that hang together");
        fault(TWO + "link a b 1 1;link a b 1 1;", 3, 38);
        fault(TWO + "link a b 1 1;link b a 1 1;", 3, 38);
        Bounds.says(TERMS, "one with itself, too (at the second W).");
        fault("town a 1;link a a 1 1;", 3, 16);
        fault(TWO + "link a b 1 1;link b b 1 1;", 3, 38);
    }

    private static void notToldAhead() {
        Bounds.says(TERMS, "4 a TOWN that isn't told ahead (at W).");
        fault("root a;", 4, 5);
        fault("touch a;", 4, 6);
        fault("settle a;", 4, 7);
        fault("town a 1;link b a 1 1;", 4, 14);
        fault("town a 1;link a b 1 1;", 4, 16);
        fault("town a 1;link b b 1 1;", 4, 14);
        fault("town a 1;touch b;town b 1;", 4, 15);
        fault("town a 1;touch aa;", 4, 15);
        fault("town aa 1;touch a;", 4, 16);
        TownForest x = Bounds.told("town a 1;");
        Bounds.due("a name of the text ahead", Check.tell(x, "touch a;"), -1);
        Bounds.due("fault(0)", x.fault(0), 4);
        Bounds.due("fault(1)", x.fault(1), 6);
    }

    // ---- promises 1 to 5

    private static void newObject() {
        Bounds.says(1, "No TOWNS");
        TownForest x = new TownForest();
        for (int what = 0; what < 6; what++) {
            Bounds.due("count(" + what + ")", x.count(what), 0);
        }
        Bounds.due("potential()", x.potential(), 0);
        Bounds.due("parts(0)", x.parts(0), 0);
        Bounds.due("parts(9999)", x.parts(9999), 0);
        Bounds.due("leastFor(1)", x.leastFor(1), 0);
        Bounds.due("named(0)", x.named(0), -1);
        Bounds.due("named(a)", x.named(1 << 25), -1);
        Bounds.due("touch(0)", x.touch(0), -1);
        Bounds.due("town(0, 0)", Check.town(x, 0, 0), Bounds.NO_TOWN);
        Bounds.due("undo()", x.undo(), -1);
        Bounds.due("back()", x.back(), -1);
        Bounds.due("seen(0)", x.seen(0), -3);
        Bounds.due("fault(0)", x.fault(0), 0);
        Bounds.due("fault(1)", x.fault(1), -1);
        Bounds.due("keep()", x.keep(), 0);
        Bounds.due("back() behind keep()", x.back(), 0);
        Bounds.due("NONE", TownForest.NONE, -1);
        Bounds.says(1, "an empty TAPE");
        Bounds.due("count(6)", x.count(6), 0);
        Bounds.due("text(1)", x.text(1), -2);
        Bounds.due("text(0)", x.text(0), 0);
        Bounds.due("feed()", x.feed(0, 0, 0, 0, 0), 20);
    }

    private static void feeding() {
        Bounds.says(2, "Twenty bytes come behind the TAPE");
        TownForest x = new TownForest();
        Bounds.due("the first", x.feed(0x746f776e, 0x20612039, 0x3b746f77, 0x6e206220, 0x2d383b73), 20);
        Bounds.due("the second", x.feed(0x65656420, 0x31323b20, 0x20202020, 0x20202020, 0x20202020), 40);
        Bounds.due("count(6)", x.count(6), 40);
        Bounds.due("text(40)", x.text(40), 3);
        Bounds.dueRow("values", Check.facts(x, 0), 9, -8);
        Bounds.says(2, "four of each number, the highest first");
        Bounds.due("feed()", x.feed(0x2020200a, -1, Bounds.HIGHEST, 0, Bounds.LOWEST), 20);
        Bounds.due("blanks", x.text(4), 0);
        for (int place = 0; place < 4; place++) {
            int shift = 24 - 8 * place;
            x.feed(0x20202020 ^ ('#' ^ ' ') << shift, 0x20202020, 0x20202020, 0x20202020, 0x20202020);
            Bounds.due("text of a sign at " + place, x.text(4), -1);
            Bounds.due("its place", x.fault(1), place);
        }
        for (int number = 0; number < 5; number++) {
            int[] five = {0x20202020, 0x20202020, 0x20202020, 0x20202020, 0x20202020};
            five[number] = 0xff202020;
            x.feed(five[0], five[1], five[2], five[3], five[4]);
            Bounds.due("text of a high byte in number " + number, x.text(20), -1);
            Bounds.due("its place", x.fault(1), 4 * number);
        }
        tapeWithoutRoom();
    }

    private static void tapeWithoutRoom() {
        Bounds.says(2, "how many it has");
        TownForest x = new TownForest();
        for (int i = 1; i <= 35; i++) {
            Bounds.due("feed() " + i, x.feed(0x20202020, 0x20202020, 0x20202020, 0x20202020, 0x20202020), 20 * i);
        }
        Bounds.says(2, "NONE, and none come, if it would have more than 700.");
        Bounds.due("feed() 36", x.feed(0, 0, 0, 0, 0), -1);
        Bounds.due("feed() 37", x.feed(-1, -1, -1, -1, -1), -1);
        Bounds.due("count(6)", x.count(6), 700);
        Bounds.due("text(700) of blanks alone", x.text(700), 0);
        Bounds.due("count(6)", x.count(6), 0);
        Bounds.due("there is room again", x.feed(0, 0, 0, 0, 0), 20);
        Bounds.changesNothing("feed() 36", TextBounds::livedWithFullTape, y -> y.feed(0, 0, 0, 0, 0), -1);
    }

    private static TownForest livedWithFullTape() {
        TownForest x = Bounds.lived();
        for (int i = 0; i < 34; i++) {
            x.feed(0x20202020, 0x20202020, 0x20202020, 0x20202020, 0x20202020);
        }
        return x;
    }

    private static void telling() {
        Bounds.says(3, "The TAPE's first n bytes (it is empty then) are the TEXT");
        TownForest x = new TownForest();
        Check.feed(x, "town a 1;town b 1;####");
        Bounds.due("text(18) of 40", x.text(18), 2);
        Bounds.due("count(6)", x.count(6), 0);
        Bounds.due("count(0)", x.count(0), 2);
        Check.feed(x, "town c 1;");
        Bounds.due("text(0) of 20", x.text(0), 0);
        Bounds.due("count(6)", x.count(6), 0);
        Bounds.due("count(0)", x.count(0), 0);
        Check.feed(x, "seed 1;");
        Bounds.due("text(20) of 20", x.text(20), 1);
        Bounds.says(3, "(no IMAGE, nothing to undo, nothing SEEN, no SWITCHES by call)");
        x = Bounds.lived();
        Bounds.due("text()", x.text(20), 2);
        Bounds.due("no image", x.back(), -1);
        Bounds.due("nothing to undo", x.undo(), -1);
        Bounds.due("count(5)", x.count(5), 0);
        Bounds.due("nothing seen", x.seen(0), -3);
        Bounds.due("count(4)", x.count(4), 0);
        Bounds.due("old towns are gone", x.count(0), 1);
        Bounds.due("old names are gone", x.named(Check.letters("a")), -1);
        Bounds.due("no switches of its own lines", Bounds.longest().count(4), 0);
        x = Bounds.lived();
        Bounds.due("text(0)", x.text(0), 0);
        Bounds.due("text(0): no image", x.back(), -1);
        Bounds.due("text(0): nothing to undo", x.undo(), -1);
        Bounds.due("text(0): nothing seen", x.seen(0), -3);
        Bounds.due("text(0): count(4)", x.count(4), 0);
        Bounds.due("text(0): no towns", x.count(0), 0);
        Bounds.says(3, "how many LINES");
        lines("", 0);
        lines("seed 5;", 1);
        lines("town a 0;" + times("root a;", 98), 99);
        lines(Bounds.manyTowns(24) + times("root x;", 69), 93);
    }

    private static void toldWithFault() {
        Bounds.says(3, "NONE with a FAULT, all else stays");
        String[] wrong = {"town", "town a 1;town b 10000;", "seed 1;seed 2;", "town a 1;link a a 1 1;", "root zz;"};
        for (String text : wrong) {
            TownForest x = Bounds.lived();
            Bounds.due("text(3) of what is there", x.text(3), -1);
            Bounds.due("the tape is empty", x.count(6), 0);
            Bounds.due("text " + text, Check.tell(x, text), -1);
            Bounds.due("the tape is empty", x.count(6), 0);
            Bounds.dueRow("towns stay", Bounds.towns(x), Bounds.towns(Bounds.lived()));
            Bounds.due("count(5)", x.count(5), 3);
            Bounds.due("count(4)", x.count(4), 3);
            Bounds.due("seen(0)", x.seen(0), 32);
            Bounds.due("names stay", x.named(Check.letters("g")), 6);
            Bounds.due("the seed stays", x.chance(-1, 60, 1), Bounds.lived().chance(42, 60, 1));
            Bounds.due("undo()", x.undo(), 2);
            Bounds.due("value is back", x.town(0, 0), 1);
            Bounds.due("the image stays", x.back(), 2);
            Bounds.due("its tail", x.chain(2, 1), 4);
        }
    }

    private static void toldTooMuch() {
        Bounds.says(3, "-2, and the TAPE stays: there are not so many");
        for (int n : new int[] {21, 22, 40, 700, 701, Bounds.HIGHEST}) {
            Bounds.changesNothing("text(" + n + ") of 20", Bounds::lived, x -> x.text(n), -2);
        }
        for (int n : new int[] {1, 20, 700}) {
            Bounds.changesNothing("text(" + n + ") of 0", Bounds::empty, x -> x.text(n), -2);
        }
        Bounds.changesNothing("text(701) of 700", TextBounds::livedWithFullTape, x -> x.text(701), -2);
        Bounds.says(3, "n is below 0.");
        for (int n : new int[] {-1, -20, Bounds.LOWEST}) {
            Bounds.changesNothing("text(" + n + ") of 20", Bounds::lived, x -> x.text(n), -2);
            Bounds.changesNothing("text(" + n + ") of 0", Bounds::empty, x -> x.text(n), -2);
        }
    }

    private static void faults() {
        Bounds.says(4, "Of the latest text() that was not -2");
        TownForest x = new TownForest();
        Check.tell(x, "town a 10000;");
        Bounds.due("fault(0)", x.fault(0), 2);
        Bounds.due("text(21)", x.text(21), -2);
        Bounds.due("text(-1)", x.text(-1), -2);
        Bounds.due("fault(0) behind -2", x.fault(0), 2);
        Bounds.due("fault(1) behind -2", x.fault(1), 7);
        Check.tell(x, "root a;");
        Bounds.due("fault(0) of the latest", x.fault(0), 4);
        Bounds.due("fault(1) of the latest", x.fault(1), 5);
        Bounds.due("text(0)", x.text(0), 0);
        Bounds.says(4, "what 0: its FAULT (0)");
        Bounds.due("fault(0) without", x.fault(0), 0);
        Bounds.due("fault(0) of a new object", new TownForest().fault(0), 0);
        Bounds.says(4, "1: its place (NONE without).");
        Bounds.due("fault(1) without", x.fault(1), -1);
        Bounds.due("fault(1) of a new object", new TownForest().fault(1), -1);
        Bounds.says(4, "NONE for another what.");
        for (int what : Bounds.outside(2)) {
            Bounds.changesNothing("fault(" + what + ")", Bounds::lived, y -> y.fault(what), -1);
        }
        Bounds.changesNothing("fault(0)", Bounds::lived, y -> y.fault(0), 1);
        Bounds.changesNothing("fault(1)", Bounds::lived, y -> y.fault(1), 4);
    }

    private static void lettersOfNames() {
        TownForest x = Bounds.told("town a 1;town z 1;town aa 1;town abcdef 1;town zzzzzz 1;");
        Bounds.says(5, "A TOWN by its letters, 5 bits each (a is 1");
        Bounds.due("a", x.named(1 << 25), 0);
        Bounds.due("z", x.named(26 << 25), 1);
        Bounds.says(5, "the first one highest of six, 0 behind the last one)");
        Bounds.due("aa", x.named(1 << 25 | 1 << 20), 2);
        Bounds.due("abcdef", x.named(1 << 25 | 2 << 20 | 3 << 15 | 4 << 10 | 5 << 5 | 6), 3);
        Bounds.due("zzzzzz", x.named(Check.letters("zzzzzz")), 4);
        Bounds.says(5, "its number");
        TownForest full = Bounds.full();
        for (int t = 0; t < 24; t++) {
            Bounds.due("town " + t, full.named(t + 1 << 25), t);
        }
        Bounds.says(5, "NONE: there is none such.");
        int[] wrong = {0, 1, -1, 1 << 20, 1 << 25 | 1, 1 << 25 | 1 << 15, 2 << 25, 27 << 25, 31 << 25, 1 << 25 | 1 << 30,
            1 << 25 | 1 << 31, (1 << 25) + 1, (1 << 25) - 1, Bounds.HIGHEST, Bounds.LOWEST};
        for (int letters : wrong) {
            Bounds.due("named(" + letters + ")", x.named(letters), -1);
            Bounds.changesNothing("named(" + letters + ")", Bounds::alone, y -> y.named(letters), -1);
        }
        Bounds.due("the 25th", full.named(25 << 25), -1);
    }
}
