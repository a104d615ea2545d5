/** The boundary cases of the text: 'Terms' and its FAULTS, sentence by sentence. */
public final class TextEdgeTest {
    private static final String ONE = "bands 1;";
    private static final String DYE = "dye a price 1 fast 1 of 1;";
    private static final String GROUND = "ground g of 1;";
    private static final String GOOD = "good x on g of 1;";
    /** Each form of a line, by its tokens; the text ahead of it is BEHIND. */
    private static final String[] LINES = {"most 3 ;", "alike 3 ;", "slip 3 ;", "over ;", "dye b price 1 fast 1 of 1 ;",
        "ground h of 1 ;", "lamp h of 1 ;", "eye h of 1 ;", "good h on g of 1 ;"};
    private static final String BEHIND = ONE + DYE + GROUND;
    private static final String[] WORDS = {"bands", "dye", "price", "fast", "of", "ground", "lamp", "eye", "good", "on", "most",
        "alike", "over", "slip"};

    private static void length() {
        Edge.sentence("A BENCH is a text of at most 1,700 bytes (empty at first): bench = {line}.");
        DyeLamps x = new DyeLamps();
        int[] none = {4, 0, 0, 0, 0, 0};
        for (int what = 0; what < none.length; what++) {
            Edge.due("about(" + what + ") at first", x.about(what), none[what]);
        }
        Edge.due("an empty text", x.bench(), 0);
        Edge.isSound("");
        Edge.isSound(" \n ");
        Edge.due("1,700 bytes, all of them read", Texts.bench(x, " ".repeat(1692) + "bands 7;"), 0);
        Edge.due("bands told by the last bytes", x.about(0), 7);
        Edge.hasFault(" ".repeat(1699) + "$", 1, 1699);
        Edge.hasFault(" ".repeat(1692) + "bands17;", 4, 1697);
        Edge.isSound("over;" + "\n".repeat(1695));
        Edge.hasFault(";".repeat(1700), 2, 0);
    }

    private static String join(String[] tokens, int from, int to) {
        StringBuilder s = new StringBuilder();
        for (int i = from; i < to; i++) {
            s.append(tokens[i]).append(' ');
        }
        return s.toString();
    }

    private static void lines() {
        Edge.sentence("line = bands N ; | dye NAME price N fast N of N {N} ; | ground NAME of N {N} ; | lamp NAME of N {N} ;"
                + " | eye NAME of N {N} ; | good NAME on NAME of N {N} ; | most N ; | alike N ; | over ; | slip N ;.");
        for (String line : LINES) {
            Edge.isSound(BEHIND + line);
            brokenLines(BEHIND, line);
        }
        Edge.isSound("bands 3 ;");
        brokenLines("", "bands 3 ;");
        Edge.hasFault("word;", 2, 0);
        Edge.hasFault("7;", 2, 0);
        Edge.hasFault(";", 2, 0);
        Edge.hasFault("over;;", 2, 5);
        for (String word : new String[] {"price", "fast", "of", "on"}) {
            Edge.hasFault(word + " 3;", 2, 0);
        }
    }

    /** Cut off ahead of a token, a token left out, a token told twice: each time what stands there then can't. */
    private static void brokenLines(String ahead, String line) {
        String[] tokens = line.split(" ");
        for (int i = 0; i < tokens.length; i++) {
            String before = ahead + join(tokens, 0, i);
            if (i > 0) {
                Edge.hasFault(before, 2, before.length());
            }
            Edge.hasFault(before + join(tokens, i + 1, tokens.length), 2, before.length());
            String once = ahead + join(tokens, 0, i + 1);
            Edge.hasFault(once + join(tokens, i, tokens.length), 2, once.length());
        }
    }

    private static void tokens() {
        Edge.sentence("words (a .. z, 8 at most)");
        Edge.isSound(ONE + "lamp a of 1;lamp z of 1;lamp az of 1;lamp za of 1;");
        for (int sign : new int[] {'a' - 1, 'z' + 1, 'A', 'Z', '_', 'a' + 128, 'z' + 128}) {
            Edge.hasFault(ONE + "lamp " + (char) sign, 1, 13);
            Edge.hasFault(ONE + "lamp b" + (char) sign, 1, 14);
        }
        Edge.isSound(ONE + "lamp abcdefgh of 1;lamp abcdefgi of 1;lamp abcdefg of 1;lamp bcdefgh of 1;");
        Edge.hasFault(ONE + "lamp abcdefgh of 1;lamp abcdefgh", 3, 32);
        Edge.hasFault(ONE + "lamp abcdefghi of 1;", 1, 13);
        Edge.hasFault("abcdefghi", 1, 0);
        Edge.hasFault(ONE + "lamp " + "a".repeat(1687), 1, 13);

        Edge.sentence("N (1 to 4 digits)");
        Edge.isSound("alike 0;");
        Edge.isSound("alike 0000;");
        Edge.isSound("bands 0016;");
        Edge.hasFault("alike 00000;", 1, 6);
        Edge.hasFault("alike 12345;", 1, 6);
        Edge.hasFault("alike " + "1".repeat(1690) + ";", 1, 6);
        for (int sign : new int[] {'0' - 1, '9' + 1, '-', '+', '.', '0' + 128, '9' + 128}) {
            Edge.hasFault("alike " + (char) sign, 1, 6);
            Edge.hasFault("alike 1" + (char) sign, 1, 7);
        }

        Edge.sentence("the sign ;");
        Edge.isSound("over;");
        for (int sign : new int[] {';' - 1, ';' + 1, ';' + 128, ','}) {
            Edge.hasFault("over" + (char) sign, 1, 4);
        }

        Edge.sentence("blanks (32, 10) part them or not");
        Edge.isSound("\n  over\n \n;\n ");
        Edge.isSound("bands1;over;alike7;dye a price1 fast1 of1;");
        Edge.isSound("bands 1 ; over ; alike 7 ;\ndye\na price\n1 fast 1 of 1 ;");
        for (int sign : new int[] {0, 9, 11, 13, 31, 33, 127, 128, 32 + 128, 10 + 128, 255}) {
            Edge.hasFault("over" + (char) sign + ";", 1, 4);
            Edge.hasFault((char) sign + "over;", 1, 0);
            Edge.hasFault("over;" + (char) sign, 1, 5);
        }

        Edge.sentence("each is as long as can be");
        Edge.hasFault("overover;", 2, 0);
        Edge.hasFault("mosta 1;", 2, 0);
        Edge.hasFault(ONE + "lamp aof 1;", 2, 17);
        Edge.due("12, not 1 and 2", Edge.on("bands 12;").about(0), 12);
        Edge.hasFault("bands 1 2;", 2, 8);
        Edge.hasFault("bands 2;lamp l of 12;", 2, 20);
        Edge.isSound("bands 2;lamp l of 1 2;");

        Edge.sentence("no letter directly behind an N");
        Edge.hasFault("bands 4x;", 1, 6);
        Edge.hasFault("bands 12a;", 1, 6);
        Edge.hasFault("dye a price 1fast 1 of", 1, 12);
        Edge.hasFault("bands 1z", 1, 6);
        Edge.hasFault("bands 4 x;", 2, 8);
        Edge.isSound("bands 4\n;");
        Edge.isSound("lamp a of1 2 3 4;");
    }

    private static void names() {
        Edge.sentence("Words that stand for themselves here are no NAMES.");
        for (String word : WORDS) {
            Edge.hasFault("dye " + word + " price", 2, 4);
            Edge.hasFault("ground " + word + " of", 2, 7);
            Edge.hasFault("lamp " + word + " of", 2, 5);
            Edge.hasFault("eye " + word + " of", 2, 4);
            Edge.hasFault(BEHIND + "good " + word + " on", 2, BEHIND.length() + 5);
            Edge.hasFault(BEHIND + "good x on " + word + " of", 2, BEHIND.length() + 10);
            Edge.isSound(ONE + "lamp " + word + "s of 1;");
            Edge.isSound(ONE + "lamp " + word.substring(1) + "q of 1;");
        }
    }

    private static String rowOf(int count, String number) {
        return " of" + (" " + number).repeat(count) + ";";
    }

    private static void settings() {
        Edge.sentence("bands (1 .. 16; 4)");
        Edge.due("bands 1", Edge.on("bands 1;lamp l of 9;").about(0), 1);
        Edge.due("bands 16", Edge.on("bands 16;lamp l" + rowOf(16, "9")).about(0), 16);
        Edge.hasFault("bands 0;", 4, 6);
        Edge.hasFault("bands 17;", 4, 6);
        Edge.hasFault("bands 9999;", 4, 6);
        Edge.due("bands not told", Edge.on("lamp l of 1 2 3 4;").about(0), 4);
        Edge.due("not told any more", again("bands 7;", "over;").about(0), 4);

        Edge.sentence("most (1 .. 24; 12)");
        Edge.isSound("most 1;" + BEHIND + GOOD);
        Edge.hasFault("most 1;" + BEHIND + "good x on g of 2;", 4, 7 + BEHIND.length() + 15);
        Edge.isSound("most 24;" + BEHIND + "good x on g of 24;");
        Edge.hasFault("most 24;" + BEHIND + "good x on g of 25;", 4, 8 + BEHIND.length() + 15);
        Edge.hasFault("most 0;", 4, 5);
        Edge.hasFault("most 25;", 4, 5);
        Edge.isSound(BEHIND + "good x on g of 12;");
        Edge.hasFault(BEHIND + "good x on g of 13;", 4, BEHIND.length() + 15);
        Edge.due("not told any more", again("most 24;", BEHIND).drop(0, 13), -1);

        Edge.sentence("alike (0 .. 9999; 10)");
        // By lamp l the two are 10000 apart, by lamp m 10010.
        String near = "bands 2;over;dye a price 0 fast 0 of 0 99;ground g of 10 1;lamp l of 1 0;lamp m of 1 1;eye e of 1 1;"
                + "good x on g of 0;good y on g of 1;";
        Edge.due("alike 9", Edge.on("alike 9;" + near).alike(0, 1, false), 0);
        Edge.due("alike 10, not told", Edge.on(near).alike(0, 1, false), 1);
        Edge.due("alike 11", Edge.on(near + "alike 11;").alike(0, 1, false), 3);
        Edge.due("alike 0", Edge.on("alike 0;" + near).alike(0, 0, false), 3);
        Edge.due("alike 9999", Edge.on("alike 9999;" + near).alike(0, 1, false), 3);
        Edge.hasFault("alike 10000;", 1, 6);
        Edge.due("not told any more", again("alike 9;", near).alike(0, 1, false), 1);

        Edge.sentence("slip (0 .. 9; 0)");
        Edge.isSound("slip 0;");
        Edge.isSound("slip 9;");
        Edge.hasFault("slip 10;", 4, 5);
        DyeLamps still = Edge.on(BEHIND);
        still.drop(0, 1);
        Edge.due("slip 0, not told: nothing is drawn", still.about(9), 1);
        still = Edge.on("slip 0;" + BEHIND);
        still.drop(0, 1);
        Edge.due("slip 0, told: nothing is drawn", still.about(9), 1);
        still = again("slip 9;", BEHIND);
        still.drop(0, 1);
        Edge.due("not told any more", still.about(9), 1);
    }

    /** An object with one text on its bench behind another, which was read twice (rooms may be used in turns). */
    private static DyeLamps again(String first, String second) {
        DyeLamps x = Edge.on(first);
        Edge.sound(x, first);
        Edge.sound(x, second);
        return x;
    }

    private static void once() {
        Edge.sentence("over, slip (0 .. 9; 0) once each");
        for (String line : new String[] {"bands 4;", "most 12;", "alike 10;", "over;", "slip 0;"}) {
            Edge.isSound(line);
            Edge.hasFault(line + line, 2, line.length());
            Edge.hasFault(line + " \n" + line.split("[ ;]")[0], 2, line.length() + 2);
        }
        Edge.isSound("bands 4;most 12;alike 10;over;slip 0;");
        Edge.isSound("slip 0;over;alike 10;most 12;bands 4;");
        String part = "bands 1;most 2;dye a price 0 fast 0 of 50;ground g of 50;";
        Edge.due("over not told any more", again("over;" + part, part + "good x on g of 1;").throwsBack(0, 0), 50000);
        DyeLamps x = again("bands 2;over;most 2;alike 2;slip 2;", "bands 3;over;most 3;alike 3;slip 3;");
        Edge.due("once in each text", x.about(0), 3);
    }

    private static void order() {
        String dyes = "dye a price 1 fast 1 of 1 2 3 4;";
        Edge.sentence("bands ahead of all dye, ground, lamp, eye lines");
        for (String line : new String[] {dyes, "ground g of 1 2 3 4;", "lamp g of 1 2 3 4;", "eye g of 1 2 3 4;"}) {
            Edge.hasFault(line + "bands 4;", 2, line.length());
            Edge.hasFault("over;" + line + "alike 7;bands", 2, line.length() + 13);
        }
        Edge.isSound("most 3;alike 3;over;slip 3;bands 1;" + DYE);

        Edge.sentence("all dyes and most ahead of all goods");
        String told = BEHIND + GOOD;
        Edge.hasFault(told + "dye b price 1 fast 1 of 1;", 2, told.length());
        Edge.hasFault(told + "most 12;", 2, told.length());
        Edge.hasFault(told + "lamp l of 1;\nmost", 2, told.length() + 13);
        Edge.isSound(ONE + DYE + "most 3;" + "dye b price 1 fast 1 of 1;" + GROUND + "good x on g of 1 2;");
        DyeLamps x = Edge.on(told + "ground h of 2;lamp l of 3;eye e of 4;alike 9;slip 9;over;good y on h of 1;");
        Edge.due("the others may stand behind goods", x.about(5), 2);
        Edge.due("over behind a good holds for it, too", x.throwsBack(0, 0), 1000 * 1 / 100);
        Edge.due("a ground behind a good", x.throwsBack(1, 0), 2000 * 1 / 100);
        Edge.due("a lamp, an eye behind a good", x.seen(1, 0, 0), 20 * 3 * 4);
        Edge.due("alike behind a good: 120 is no more than 9000", x.alike(0, 1, false), 1);
    }

    /** As many lines as are told, named by letters. */
    private static String many(String head, String tail, int count) {
        StringBuilder s = new StringBuilder();
        for (int i = 0; i < count; i++) {
            s.append(head).append(' ').append((char) ('a' + i)).append(tail);
        }
        return s.toString();
    }

    private static void counts() {
        Edge.sentence("8 dyes (price 0 .. 99, fast 0 .. 99, of each band 0 .. 99 that is thrown back)");
        String[] numbers = {"0", "99", "100"};
        for (String n : numbers) {
            int number = n.equals("100") ? 4 : 0;
            fault(ONE, "dye a price ", n + " fast 1 of 1;", number);
            fault(ONE, "dye a price 1 fast ", n + " of 1;", number);
            fault(ONE, "dye a price 1 fast 1 of ", n + ";", number);
            fault("bands 3;", "dye a price 1 fast 1 of 1 1 ", n + ";", number);
        }
        full("dye", " price 1 fast 1 of 1;", 8, 1);

        Edge.sentence("4 grounds (0 .. 99 of each)");
        rows("ground", numbers, 4, 2);

        Edge.sentence("6 lamps (0 .. 99 of each)");
        rows("lamp", numbers, 6, 3);

        Edge.sentence("4 eyes (0 .. 9 of each)");
        rows("eye", new String[] {"0", "9", "10"}, 4, 4);

        Edge.sentence("8 goods (on a ground told ahead; of each dye, in their order, so many parts, together no more than most;"
                + " at least one dye must be told), numbered as told");
        String ahead = BEHIND + many("good", " on g of 0;", 8);
        Edge.due("eight goods", Edge.on(ahead).about(5), 8);
        Edge.hasFault(ahead + "good", 2, ahead.length());
        Edge.hasFault(ahead + "good x on h of 77 7", 2, ahead.length());
    }

    /** A text that has a fault at the place between its halves, or none if the number is 0. */
    private static void fault(String setting, String ahead, String rest, int number) {
        if (number == 0) {
            Edge.isSound(setting + ahead + rest);
        } else {
            Edge.hasFault(setting + ahead + rest, number, setting.length() + ahead.length());
        }
    }

    private static void rows(String sort, String[] numbers, int count, int what) {
        for (String n : numbers) {
            int number = n.equals(numbers[2]) ? 4 : 0;
            fault(ONE, sort + " a of ", n + ";", number);
            fault("bands 3;", sort + " a of 1 1 ", n + ";", number);
        }
        full(sort, " of 1;", count, what);
    }

    private static void full(String sort, String tail, int count, int what) {
        String ahead = ONE + many(sort, tail, count);
        Edge.due("so many " + sort + " lines", Edge.on(ahead).about(what), count);
        Edge.hasFault(ahead + sort, 2, ahead.length());
        Edge.hasFault(ahead + sort + " a of 777", 2, ahead.length());
        Edge.hasFault(ahead + many(sort, tail, count), 2, ahead.length());
    }

    private static void goods() {
        String two = ONE + DYE + "dye b price 7 fast 1 of 1;" + "most 5;";
        Edge.sentence("on a ground told ahead");
        Edge.hasFault(two + "good x on g of 1 1;" + GROUND, 5, two.length() + 10);
        Edge.hasFault(two + GROUND + "good x on h of 1 1;ground h of 1;", 5, two.length() + 24);

        Edge.sentence("of each dye, in their order, so many parts, together no more than most");
        String ahead = two + GROUND;
        DyeLamps x = Edge.on(ahead + "good x on g of 2 3;good y on g of 5 0;good z on g of 0 5;good o on g of 0 0;");
        Edge.due("2 parts of a, 3 of b", x.cost(0), 2 + 21);
        Edge.due("all of the first dye", x.cost(1), 5);
        Edge.due("all of the last dye", x.cost(2), 35);
        Edge.due("no parts at all", x.cost(3), 0);
        Edge.hasFault(ahead + "good x on g of 6 0;", 4, ahead.length() + 15);
        Edge.hasFault(ahead + "good x on g of 0 6;", 4, ahead.length() + 17);
        Edge.hasFault(ahead + "good x on g of 3 3;", 4, ahead.length() + 17);
        Edge.hasFault(ahead + "good x on g of 9999 9999;", 4, ahead.length() + 15);
        Edge.hasFault(ahead + "good x on g of 5;", 2, ahead.length() + 16);
        Edge.hasFault(ahead + "good x on g of 1 1 0;", 2, ahead.length() + 19);

        Edge.sentence("at least one dye must be told");
        Edge.hasFault(ONE + GROUND + "good x on g of 1;", 2, ONE.length() + GROUND.length());
        Edge.hasFault("good", 2, 0);

        Edge.sentence("numbered as told");
        DyeLamps n = Edge.on("bands 1;most 9;dye z price 5 fast 0 of 3;ground z of 4;lamp z of 2;eye z of 1;dye a price 6 fast 0 of 7;"
                + "ground a of 8;lamp a of 5;eye a of 3;good z on z of 1 0;good a on a of 0 1;");
        Edge.due("good 0 has dye 0", n.cost(0), 5);
        Edge.due("good 1 has dye 1", n.cost(1), 6);
        Edge.due("ground 0", n.throwsBack(-1, 0), 4000);
        Edge.due("lamp 0, eye 1", n.seen(-1, 0, 1), 4000 * 2 * 3);
        Edge.due("lamp 1, eye 0", n.seen(-1, 1, 0), 4000 * 5 * 1);
        n.set(1);
        Edge.due("ground 1", n.throwsBack(-1, 0), 8000);

        Edge.sentence("Rows of bands have just as many N as there are bands.");
        for (String sort : new String[] {"dye a price 1 fast 1", "ground a", "lamp a", "eye a"}) {
            for (int bands : new int[] {1, 2, 16}) {
                String head = "bands " + bands + ";" + sort + " of" + " 1".repeat(bands);
                Edge.isSound(head + ";");
                Edge.hasFault(head + " 1;", 2, head.length() + 1);
                Edge.hasFault(head.substring(0, head.length() - 2) + ";", 2, head.length() - 2);
            }
            Edge.isSound(sort + rowOf(4, "1"));
            Edge.hasFault(sort + rowOf(5, "1"), 2, sort.length() + 12);
            Edge.hasFault(sort + rowOf(3, "1"), 2, sort.length() + 9);
        }
    }

    /** Names that differ by one letter, at any place, or by their length alone, are unlike. */
    private static void namesAreWhole() {
        for (int length = 1; length <= 8; length++) {
            for (int at = 0; at < length; at++) {
                StringBuilder s = new StringBuilder(ONE);
                for (char c : new char[] {'a', 'b', 'c', 'q', 'y', 'z'}) {
                    s.append("lamp ").append("a".repeat(at)).append(c).append("z".repeat(length - at - 1)).append(" of 1;");
                }
                Edge.isSound(s.toString());
            }
        }
        for (String pair : new String[] {"a aa", "z zz", "zzzzzzz zzzzzzzz", "ab ba", "aaaaaaa aaaaaaaa", "abcdefgh hgfedcba"}) {
            Edge.isSound(ONE + "eye " + pair.split(" ")[0] + " of 1;eye " + pair.split(" ")[1] + " of 1;");
        }
    }

    private static void faults() {
        Edge.sentence("FAULTS, the first by its place (bytes from 0; the end: the text's length), at one place the least");
        Edge.hasFault("$", 1, 0);
        Edge.hasFault("bands 17;$", 4, 6);
        Edge.hasFault("word $", 2, 0);
        Edge.hasFault("bands 1;lamp l of 1;lamp l of 100;$", 3, 25);
        Edge.hasFault(BEHIND + "good x on h of 77 $", 5, BEHIND.length() + 10);
        Edge.hasFault("bands", 2, 5);
        Edge.hasFault("bands \n\n ", 2, 9);
        Edge.hasFault("over;bands 3", 2, 12);
        Edge.hasFault("over 12345;", 1, 5);
        Edge.hasFault("over abcdefghi;", 1, 5);
        Edge.hasFault(ONE + "eye a of 1 99;", 2, 19);
        Edge.hasFault(ONE + "eye a of 1 99999;", 1, 19);
        Edge.hasFault("dye 3a", 1, 4);

        Edge.sentence("1 no TOKEN");
        Edge.hasFault("over;!", 1, 5);

        Edge.sentence("2 one that can't stand there (one of a sort too many or a second time, bands behind a line of bands, a dye or most"
                + " behind a good, a good without dyes: at the line's first word; an N too many: there)");
        Edge.hasFault("  good x on g of 99;", 2, 2);
        Edge.hasFault("over; over 9;", 2, 6);
        Edge.hasFault("lamp l of 1 1 1 1; bands 99;", 2, 19);
        Edge.hasFault(BEHIND + GOOD + " dye a", 2, BEHIND.length() + GOOD.length() + 1);
        Edge.hasFault(BEHIND + GOOD + " most 99", 2, BEHIND.length() + GOOD.length() + 1);
        Edge.hasFault("bands 3 3;", 2, 8);
        Edge.hasFault("slip 3 99;", 2, 7);

        Edge.sentence("3 a NAME told already (of its sort)");
        for (String sort : new String[] {"dye", "ground", "lamp", "eye"}) {
            String tail = sort.equals("dye") ? " price 1 fast 1 of 1;" : " of 1;";
            String ahead = ONE + sort + " q" + tail + sort + " r" + tail;
            Edge.hasFault(ahead + sort + " q" + tail, 3, ahead.length() + sort.length() + 1);
            Edge.hasFault(ahead + sort + " r", 3, ahead.length() + sort.length() + 1);
            Edge.isSound(ahead + sort + " qr" + tail + sort + " s" + tail);
        }
        Edge.hasFault(BEHIND + GOOD + "good x on", 3, BEHIND.length() + GOOD.length() + 5);
        String all = ONE + "dye q price 1 fast 1 of 1;ground q of 1;lamp q of 1;eye q of 1;good q on q of 1;";
        Edge.isSound(all);
        Edge.due("names of another text are not told in this one", again(all, all).about(5), 1);
        namesAreWhole();

        Edge.sentence("4 a number that can't be (of parts: that by which they are more than most)");
        String three = ONE + DYE + "dye b price 1 fast 1 of 1;dye c price 1 fast 1 of 1;" + GROUND + "good x on g of ";
        Edge.hasFault(three + "4 9 9;", 4, three.length() + 2);
        Edge.hasFault(three + "6 6 1;", 4, three.length() + 4);
        Edge.hasFault(three + "0 0 13;", 4, three.length() + 4);
        Edge.isSound(three + "6 6 0;");

        Edge.sentence("5 a NAME that no ground has");
        String others = ONE + DYE + GROUND + "lamp l of 1;eye e of 1;good x on ";
        for (String name : new String[] {"a", "l", "e", "x", "gg", "h"}) {
            Edge.hasFault(others + name + " of 1;", 5, others.length());
        }
        Edge.isSound(others + "g of 1;");
        DyeLamps x = again(ONE + DYE + "ground h of 1;", ONE);
        Edge.due("a ground of another text", Texts.bench(x, BEHIND + "good x on h of 1;"), -1);
        Edge.due("a ground of another text", x.fault(0), 5);
        Edge.hasFault(others + "7 of 1;", 2, others.length());
        Edge.hasFault(others + ";", 2, others.length());
    }

    public static void main(String[] args) throws Exception {
        length();
        lines();
        tokens();
        names();
        settings();
        once();
        order();
        counts();
        goods();
        faults();
        Edge.finish();
    }
}
