/** Promise by promise: ordinary inputs, the edges that the document names, and wrong inputs, worked out by hand. */
public final class PromiseTest {
    private static int wrong = 0;
    private static int checks = 0;

    /** x on w throws back 55000 45000, y on s 50000 80000, the bare w 50000 50000. */
    private static final String HEAD = "bands 2;most 4;dye r price 3 fast 2 of 80 20;dye b price 2 fast 0 of 10 90;"
            + "ground w of 50 50;ground s of 90 70;lamp d of 1 1;lamp n of 0 2;"
            + "eye p of 1 0;eye q of 0 1;eye t of 1 1;eye o of 0 3;good x on w of 2 1;good y on s of 0 2;";
    private static final String BENCH = HEAD + "alike 5;";

    private static void due(int promise, String what, long got, long want) {
        checks++;
        if (got != want) {
            wrong++;
            System.out.println("promise " + promise + ": " + what + " answered " + got + ", due is " + want);
        }
    }

    private static void due(int promise, String what, boolean got, boolean want) {
        due(promise, what, got ? 1 : 0, want ? 1 : 0);
    }

    private static DyeLamps on(String text) {
        DyeLamps x = new DyeLamps();
        Texts.bench(x, text);
        if (x.fault(0) != 0) {
            due(4, "a sound text, fault at " + x.fault(1), x.fault(0), 0);
        }
        return x;
    }

    private static void parts(int promise, String what, DyeLamps x, int... want) {
        for (int dye = 0; dye < want.length; dye++) {
            due(promise, what + ", parts of dye " + dye, x.parts(dye), want[dye]);
        }
    }

    private static void fault(String text, int number, int place) {
        DyeLamps x = new DyeLamps();
        due(4, "bench of [" + text + "]", Texts.bench(x, text), -1);
        due(5, "fault of [" + text + "]", x.fault(0), number);
        due(5, "place in [" + text + "]", x.fault(1), place);
    }

    private static void newObject() {
        DyeLamps x = new DyeLamps();
        int[] want = {4, 0, 0, 0, 0, 0, 0, 0, 0, 1, 0, 0};
        for (int what = 0; what < want.length; what++) {
            due(1, "about(" + what + ")", x.about(what), want[what]);
        }
        due(1, "old", x.old(), 0);
        due(1, "fault", x.fault(0), 0);
        due(1, "place", x.fault(1), -1);
        due(1, "mixes", x.mixes(), -1);
        due(1, "parts", x.parts(0), -1);
        due(1, "weight", x.weight(0), -1);
        due(1, "pick", x.pick(0), -1);
        due(1, "back", x.back(0), -1);
        due(1, "bench of the empty text", x.bench(), 0);
    }

    private static void feeding() {
        DyeLamps x = new DyeLamps();
        for (int i = 1; i <= 85; i++) {
            due(2, "feed", x.feed(0x20202020, 0x20202020, 0x20202020, 0x20202020, 0x20202020), 20 * i);
        }
        due(2, "feed beyond 1700", x.feed(1, 2, 3, 4, 5), -1);
        due(2, "bytes", x.about(8), 1700);
        due(3, "end(1701)", x.end(1701), -1);
        due(3, "end(-1)", x.end(-1), -1);
        due(3, "end(1700)", x.end(1700), 1700);
        due(3, "end(1681)", x.end(1681), 1681);
        due(2, "feed beyond 1700 by one", x.feed(1, 2, 3, 4, 5), -1);
        due(3, "end(1680)", x.end(1680), 1680);
        due(2, "feed up to 1700", x.feed(1, 2, 3, 4, 5), 1700);
        due(3, "end(6)", x.end(6), 6);
        due(2, "bytes of a number, highest first", x.feed(0x62616e64, 0x7331363b, 0, 0, 0), 26);
        due(3, "end(14)", x.end(14), 14);
        due(4, "bench", x.bench(), 0);
        due(2, "bands 16", x.about(0), 16);
        due(3, "end(0)", x.end(0), 0);
        due(3, "end(1) of an empty tape", x.end(1), -1);
    }

    private static void benching() {
        DyeLamps x = on(BENCH);
        x.seed(77);
        x.later(5);
        x.set(1);
        x.drop(0, 2);
        x.days(1);
        x.look(0, 0, 1, 1);
        x.image(0);
        x.ask(0, 0, 4, 2);
        x.best(1, false);
        x.betray(0, 1, false);
        due(4, "a faulty text", Texts.bench(x, "bands 2;$"), -1);
        due(4, "the tape is empty then", x.about(8), 0);
        due(5, "its fault", x.fault(0), 1);
        due(5, "its place", x.fault(1), 8);
        due(4, "goods stay", x.about(5), 2);
        due(4, "the vat stays", x.vat(0), 2);
        due(4, "looks stay", x.about(6), 1);
        due(4, "mixes stay", x.mixes(), 15);
        due(4, "weights stay", x.weight(1), 10);
        due(4, "the mix stays", x.parts(0), 2);
        due(4, "a sound text", Texts.bench(x, BENCH), 2);
        due(5, "no fault", x.fault(0), 0);
        due(5, "no place", x.fault(1), -1);
        due(5, "fault(2)", x.fault(2), -1);
        due(5, "fault(-1)", x.fault(-1), -1);
        due(4, "the tape is empty then", x.about(8), 0);
        due(4, "the vat is as at first", x.vat(0), 0);
        due(4, "days are as at first", x.about(10), 0);
        due(4, "the ground is as at first", x.about(11), 0);
        due(4, "looks are none", x.about(6), 0);
        due(4, "boxes are empty", x.back(0), -1);
        due(4, "nothing is asked of", x.mixes(), -1);
        due(4, "none is best", x.pick(0), -1);
        due(4, "no mix lies there", x.parts(0), -1);
        due(4, "no weights lie there", x.weight(0), -1);
        due(4, "w stays", x.about(9), 77);
        due(4, "the time stays", x.about(7), 5);
        due(4, "settings are as at first again", Texts.bench(x, "dye r price 3 fast 2 of 1 2 3 4;"), 0);
    }

    private static void tokenFaults() {
        fault("bands 4;A", 1, 8);
        fault("bands 4;\t", 1, 8);
        fault("bands 4;\u0000", 1, 8);
        fault("bands 4;\u00e9", 1, 8);
        fault("bands 4x;", 1, 6);
        fault("alike 12345;", 1, 6);
        fault("lamp abcdefghi of 1 1 1 1;", 1, 5);
        due(4, "eight letters, four digits, no blanks", Texts.bench(new DyeLamps(), "alike0009;lamp abcdefgh of1 2\n3 4;"), 0);
        fault("bands", 2, 5);
        fault("bands 4", 2, 7);
        fault("bands 4 \n ", 2, 10);
        fault(";", 2, 0);
        fault("7", 2, 0);
        fault("word", 2, 0);
        fault("price 3;", 2, 0);
        fault("over 1;", 2, 5);
        fault("bands 4 4;", 2, 8);
        fault("bands 4;;", 2, 8);
    }

    private static void lineFaults() {
        String dye = "dye a price 1 fast 1 of 1;";
        String ground = "ground g of 1;";
        fault("bands 0;", 4, 6);
        fault("bands 17;", 4, 6);
        fault("most 0;", 4, 5);
        fault("most 25;", 4, 5);
        fault("slip 10;", 4, 5);
        fault("dye a price 100", 4, 12);
        fault("dye a price 1 fast 100", 4, 19);
        fault("bands 1;dye a price 1 fast 1 of 100", 4, 32);
        fault("bands 1;ground a of 100", 4, 20);
        fault("bands 1;lamp a of 100", 4, 18);
        fault("bands 1;eye a of 10", 4, 17);
        fault("slip 1;slip", 2, 7);
        fault("most 1;most", 2, 7);
        fault("bands 1;eye a of 1;bands", 2, 19);
        fault("bands 1;lamp a of 1;bands", 2, 20);
        fault("ground a of 1 2 3 4;bands", 2, 20);
        fault("bands 1;" + dye + "bands", 2, 34);
        fault(dye.replace("1;", "1 1 1 1;") + "lamp a of 1 1 1 1;bands", 2, 50);
        fault("eye a of 1 1 1 1;ground b of 1 1 1 1;bands", 2, 37);
        fault("bands 1;" + dye + ground + "good a on g of 1;dye", 2, 65);
        fault("bands 1;" + dye + ground + "good a on g of 1;most", 2, 65);
        fault("bands 2;eye a of 1;", 2, 18);
        fault("bands 1;eye a of 1 2;", 2, 19);
        fault("bands 1;eye a of 1 99;", 2, 19);
        fault("dye on price 1 fast 1", 2, 4);
        fault("dye a fast 1", 2, 6);
        fault("bands 1;eye a of 1;eye a", 3, 23);
        fault("bands 1;lamp a of 1;lamp a", 3, 25);
        fault("bands 1;ground a of 1;ground a", 3, 29);
        fault("bands 1;" + ground + "good", 2, 22);
        fault("bands 1;" + dye + "good a on a of 1;", 5, 44);
        fault("bands 1;" + dye + "good a on of", 2, 44);
        fault("bands 1;" + dye + ground + "good a on g of 13;", 4, 63);
        fault("bands 1;" + dye + ground + "good a on g of 1;good a", 3, 70);
        fault("bands 1;" + dye + "dye b price 1 fast 1 of 1;" + ground + "good a on g of 7 6;", 4, 91);
        fault("bands 1;" + dye + "dye b price 1 fast 1 of 1;" + ground + "good a on g of 7;", 2, 90);
    }

    private static void countFaults() {
        StringBuilder s = new StringBuilder("bands 1;");
        for (char c = 'a'; c < 'i'; c++) {
            s.append("dye ").append(c).append(" price 99 fast 99 of 99;");
        }
        fault(s + "dye", 2, s.length());
        for (char c = 'a'; c < 'e'; c++) {
            s.append("ground ").append(c).append(" of 99;");
        }
        fault(s + "ground", 2, s.length());
        for (char c = 'a'; c < 'g'; c++) {
            s.append("lamp ").append(c).append(" of 99;");
        }
        fault(s + "lamp", 2, s.length());
        for (char c = 'a'; c < 'e'; c++) {
            s.append("eye ").append(c).append(" of 9;");
        }
        fault(s + "eye", 2, s.length());
        s.append("most 24;");
        for (char c = 'a'; c < 'i'; c++) {
            s.append("good ").append(c).append(" on d of 24 0 0 0 0 0 0 0;");
        }
        fault(s + "good", 2, s.length());
        DyeLamps x = new DyeLamps();
        due(4, "as many as can be", Texts.bench(x, s + "over;slip 9;alike 9999;"), 8);
        int[] want = {1, 8, 4, 6, 4, 8};
        for (int what = 0; what < want.length; what++) {
            due(37, "about(" + what + ") of a full bench", x.about(what), want[what]);
        }
        due(26, "old of a full bench", x.old(), 16);
        due(23, "24 parts at once", x.drop(7, 24), 24);
        fault(";".repeat(1700), 2, 0);
        fault("over;" + ";".repeat(1695), 2, 5);
        fault("over;" + " ".repeat(1690) + "alike", 2, 1700);
    }

    private static void fullRecipes() {
        StringBuilder s = new StringBuilder("bands 1;");
        for (char c = 'a'; c < 'i'; c++) {
            s.append("dye ").append(c).append(" price 1 fast 1 of 9;");
        }
        s.append("ground g of 3;lamp l of 0;eye e of 9;");
        for (char c = 'a'; c < 'i'; c++) {
            s.append("good ").append(c).append(" on g of 1 1 1 1 1 1 1 1;");
        }
        DyeLamps x = on(s.toString());
        due(26, "as many old ones as can be", x.old(), 72);
        due(27, "the last one's good", x.oldOne(71, 0), 7);
        due(27, "the last one's dye", x.oldOne(71, 1), 7);
        due(27, "the first without a dye", x.oldOne(8, 1), 0);
        due(31, "all agree", x.agree(0), 72);
        due(32, "the last that agrees", x.agrees(71, 0), 71);
        due(33, "all are seen as one", x.next(2, 0), 72);
        due(33, "lamp", x.next(0, 0), 0);
        due(33, "eye", x.next(1, 0), 0);
    }

    private static void looking() {
        DyeLamps x = on(BENCH);
        due(6, "throwsBack(0, 0)", x.throwsBack(0, 0), 55000);
        due(6, "throwsBack(1, 1)", x.throwsBack(1, 1), 80000);
        due(6, "throwsBack(-1, 1)", x.throwsBack(-1, 1), 50000);
        due(6, "throwsBack(-2, 0)", x.throwsBack(-2, 0), -1);
        due(6, "throwsBack(2, 0)", x.throwsBack(2, 0), -1);
        due(6, "throwsBack(0, -1)", x.throwsBack(0, -1), -1);
        due(6, "throwsBack(0, 2)", x.throwsBack(0, 2), -1);
        due(7, "seen(0, 0, 2)", x.seen(0, 0, 2), 100000);
        due(7, "seen(1, 1, 3)", x.seen(1, 1, 3), 480000);
        due(7, "seen(-1, 1, 1)", x.seen(-1, 1, 1), 100000);
        due(7, "seen(0, 2, 0)", x.seen(0, 2, 0), -1);
        due(7, "seen(0, -1, 0)", x.seen(0, -1, 0), -1);
        due(7, "seen(0, 0, 4)", x.seen(0, 0, 4), -1);
        due(7, "seen(0, 0, -1)", x.seen(0, 0, -1), -1);
        due(7, "seen(-2, 0, 0)", x.seen(-2, 0, 0), -1);
        due(8, "apart, plain", x.apart(0, 1, 0, false), 35000);
        due(8, "apart, odd", x.apart(1, 0, 0, true), 105000);
        due(8, "apart by night, plain", x.apart(0, 1, 1, false), 70000);
        due(8, "apart of the vat", x.apart(-1, 0, 1, true), 30000);
        due(8, "apart, no such lamp", x.apart(0, 1, 2, false), -1);
        due(8, "apart, no such good", x.apart(0, 2, 0, false), -1);
        due(8, "apart, no such good", x.apart(-2, 0, 0, false), -1);
        due(9, "alike at the edge", x.alike(0, -1, false), 1);
        due(9, "alike, odd", x.alike(0, -1, true), 0);
        due(9, "alike itself", x.alike(-1, -1, true), 3);
        due(9, "alike, no such good", x.alike(0, 2, true), -1);
        due(9, "alike just behind the edge", on(HEAD + "alike 4;").alike(0, -1, false), 0);
        due(10, "cost(0)", x.cost(0), 8);
        due(10, "cost(1)", x.cost(1), 4);
        due(10, "cost of the vat", x.cost(-1), 0);
        due(10, "cost(2)", x.cost(2), -2);
        due(10, "cost(-2)", x.cost(-2), -2);
    }

    private static void lookingAtLittle() {
        DyeLamps bare = on("bands 1;dye a price 1 fast 1 of 1;lamp l of 1;eye e of 1;");
        due(6, "the vat without grounds", bare.throwsBack(-1, 0), -1);
        due(7, "the vat without grounds", bare.seen(-1, 0, 0), -1);
        due(8, "the vat without grounds", bare.apart(-1, -1, 0, false), -1);
        due(9, "the vat without grounds", bare.alike(-1, -1, false), -1);
        due(10, "the vat without grounds", bare.cost(-1), 0);
        due(10, "the vat on a new bench", new DyeLamps().cost(-1), 0);
        due(10, "no goods", bare.cost(0), -2);
        due(10, "no goods", new DyeLamps().cost(0), -2);
        due(10, "no goods", new DyeLamps().cost(-2), -2);
        due(19, "the vat without grounds", bare.betray(-1, -1, false), -1);
        due(21, "the vat without grounds", bare.lamp(-1, -1, false), -1);
        due(23, "no grounds", bare.drop(0, 1), -1);
        due(25, "the vat without grounds", bare.vat(0), 0);
        DyeLamps blind = on("bands 1;dye a price 1 fast 1 of 1;ground g of 5;lamp l of 1;lamp k of 1;good x on g of 3;");
        due(8, "apart without eyes", blind.apart(-1, 0, 0, false), 0);
        due(9, "alike without eyes", blind.alike(-1, 0, false), 3);
        due(21, "lamp without eyes", blind.lamp(-1, 0, false), 0);
        due(19, "betray without eyes", blind.betray(-1, 0, false), 0);
        due(20, "the first row of weights", blind.weight(1), 10);
        due(33, "next without eyes", blind.next(0, 0), -1);
        DyeLamps dark = on("bands 1;dye a price 1 fast 1 of 1;ground g of 5;eye l of 1;good x on g of 3;");
        due(9, "alike without lamps", dark.alike(-1, 0, false), 0);
        due(19, "betray without lamps", dark.betray(-1, 0, false), -1);
        due(21, "lamp without lamps", dark.lamp(-1, 0, false), -1);
        due(33, "next without lamps", dark.next(0, 0), -1);
        DyeLamps over = on("bands 1;over;most 3;dye a price 1 fast 1 of 33;dye b price 1 fast 1 of 77;ground g of 99;good x on g of 1 2;");
        due(6, "one over the other", over.throwsBack(0, 0), 99000 * 33 / 100 * 77 / 100 * 77 / 100);
        DyeLamps cut = on("bands 1;most 7;dye a price 1 fast 1 of 33;ground g of 98;good x on g of 2;");
        due(6, "shares, cut", cut.throwsBack(0, 0), (2 * 33 + 5 * 98) * 1000 / 7);
        DyeLamps three = on("bands 1;dye a price 1 fast 1 of 1;ground g of 9;lamp l of 1;eye a of 1;eye b of 2;eye c of 9;good x on g of 12;");
        due(8, "the odd one without eye 3", three.apart(-1, 0, 0, true), 16000);
        due(8, "the plain one", three.apart(-1, 0, 0, false), 72000);
    }

    private static void asking() {
        DyeLamps x = on(BENCH);
        due(12, "nothing is asked of", x.mixes(), -1);
        due(11, "ask", x.ask(0, 0, 4, 2), true);
        due(12, "mixes", x.mixes(), 15);
        due(11, "the vat is no good", x.ask(-1, 0, 4, 2), false);
        due(11, "no such good", x.ask(2, 0, 4, 2), false);
        due(11, "no such ground", x.ask(0, 2, 4, 2), false);
        due(11, "no such ground", x.ask(0, -1, 4, 2), false);
        due(11, "m below 0", x.ask(0, 0, -1, 2), false);
        due(11, "m above most", x.ask(0, 0, 5, 2), false);
        due(11, "u below 0", x.ask(0, 0, 4, -1), false);
        due(11, "u above 8", x.ask(0, 0, 4, 9), false);
        due(11, "that changed nothing", x.mixes(), 15);
        due(11, "u of 8", x.ask(1, 1, 4, 8), true);
        due(12, "mixes of all dyes", x.mixes(), 15);
        due(11, "u of 1", x.ask(1, 1, 4, 1), true);
        due(12, "mixes of one dye", x.mixes(), 9);
        due(11, "u of 0", x.ask(1, 1, 4, 0), true);
        due(12, "the bare ground", x.mixes(), 1);
        due(11, "m of 0", x.ask(1, 1, 0, 2), true);
        due(12, "the bare ground", x.mixes(), 1);
    }

    private static void matching() {
        DyeLamps x = on(HEAD + "alike 4;");
        due(13, "nothing is asked of", x.match(1, false), -1);
        x.ask(0, 0, 4, 2);
        due(13, "the cheapest match", x.match(1, false), 3);
        parts(13, "the cheapest match", x, 1, 0, -1);
        due(13, "by both lamps", x.match(3, false), 8);
        parts(13, "by both lamps", x, 2, 1, -1);
        due(13, "for the odd one", x.match(1, true), 8);
        due(13, "no lamps", x.match(0, false), -1);
        parts(13, "behind NONE", x, -1, -1);
        due(13, "a lamp too many", x.match(4, false), -1);
        due(13, "a lamp too many", x.match(5, false), -1);
        due(13, "below 0", x.match(-1, false), -1);
        due(13, "another ground", x.ask(0, 1, 4, 0), true);
        due(13, "none", x.match(1, false), -1);
        parts(13, "none", x, -1, -1);
        DyeLamps free = on("bands 1;most 3;dye a price 0 fast 0 of 9;dye b price 0 fast 0 of 9;dye c price 0 fast 0 of 0;"
                + "ground g of 0;lamp l of 1;eye e of 1;good x on g of 2 0 0;alike 0;");
        free.ask(0, 0, 3, 3);
        due(13, "of like cost", free.match(1, false), 0);
        parts(13, "fewest parts, then the first row", free, 0, 2, 0);
    }

    private static void nearing() {
        DyeLamps x = on(HEAD);
        due(14, "nothing is asked of", x.nearest(1, false), -1);
        x.ask(0, 0, 4, 1);
        due(14, "nearest by day", x.nearest(1, false), 2500);
        parts(14, "nearest by day", x, 1, 0, -1);
        due(14, "nearest by both", x.nearest(3, false), 5000);
        due(14, "for the odd one", x.nearest(2, true), 15000);
        due(14, "no lamps", x.nearest(0, false), -1);
        parts(14, "behind NONE", x, -1, -1);
        due(14, "a lamp too many", x.nearest(4, false), -1);
        x.ask(0, 0, 4, 2);
        due(14, "itself", x.nearest(3, true), 0);
        parts(14, "itself", x, 2, 1, -1);
        DyeLamps cheap = on("bands 1;most 4;dye a price 5 fast 0 of 9;dye b price 3 fast 0 of 9;ground g of 0;"
                + "lamp l of 1;eye e of 1;good x on g of 3 0;");
        cheap.ask(0, 0, 4, 2);
        due(14, "of like ones the cheapest", cheap.nearest(1, false), 0);
        parts(14, "of like ones the cheapest", cheap, 0, 3);
    }

    private static void besting() {
        String text = "bands 2;most 1;dye a price 7 fast 0 of 10 0;dye b price 5 fast 0 of 0 10;dye c price 3 fast 0 of 0 0;"
                + "ground g of 6 6;ground h of 0 0;lamp l of 1 0;lamp m of 0 1;eye e of 1 1;good x on g of 0 0 0;";
        DyeLamps x = on(text);
        due(15, "nothing is asked of", x.best(1, false), -1);
        x.ask(0, 1, 1, 3);
        due(15, "two are best by both lamps", x.best(3, false), 2);
        parts(15, "the first by their order lies there", x, 0, 1, 0, -1);
        due(16, "pick(1)", x.pick(1), 7);
        parts(16, "pick(1)", x, 1, 0, 0, -1);
        due(16, "pick(2)", x.pick(2), -1);
        due(16, "pick(-1)", x.pick(-1), -1);
        parts(16, "what lies there stays", x, 1, 0, 0, -1);
        due(16, "pick(0)", x.pick(0), 5);
        due(16, "asking else", x.ask(0, 0, 1, 3), true);
        due(16, "the latest best stays", x.pick(1), 7);
        due(13, "match behind best", x.match(1, false), 0);
        due(16, "the latest best stays", x.pick(1), 7);
        due(15, "no lamps", x.best(0, false), -1);
        due(15, "none is best then", x.pick(0), -1);
        parts(15, "behind NONE", x, -1, -1);
        x.ask(0, 1, 1, 3);
        due(15, "like ones are all best", x.best(2, false), 1);
        x.ask(0, 1, 1, 0);
        due(15, "one alone", x.best(3, true), 1);
        DyeLamps blind = on("bands 1;dye a price 1 fast 0 of 1;ground g of 1;lamp l of 1;good x on g of 1;");
        blind.ask(0, 0, 12, 1);
        due(15, "all are like without eyes", blind.best(1, false), 13);
        due(16, "the last of them", blind.pick(12), 12);
    }

    private static String many(int dyes, int most) {
        StringBuilder s = new StringBuilder("bands 1;most ").append(most).append(";ground g of 9;lamp l of 1;eye e of 1;");
        StringBuilder good = new StringBuilder("good x on g of");
        for (int i = 0; i < dyes; i++) {
            s.append("dye ").append((char) ('a' + i)).append(" price 1 fast 1 of ").append(i).append(';');
            good.append(i == dyes - 1 ? " 1" : " 0");
        }
        return s.append(good).append(';').toString();
    }

    private static void spending() {
        DyeLamps x = on(many(8, 24));
        x.ask(0, 0, 24, 8);
        due(12, "very many mixes", x.mixes(), 10518300);
        due(13, "spent", x.match(1, false), -2);
        due(14, "spent", x.nearest(1, false), -2);
        due(15, "spent", x.best(1, false), -2);
        due(17, "spent", x.trick(0, 0, false), -2);
        due(13, "what can't be is asked first", x.match(0, false), -1);
        x.ask(0, 0, 10, 8);
        due(12, "43758 mixes", x.mixes(), 43758);
        due(13, "not spent", x.match(1, false), 0);
        due(15, "spent for best", x.best(1, false), -2);
        due(15, "spent for best: none is best", x.pick(0), -1);
        parts(15, "spent for best", x, -1);
        x.ask(0, 0, 12, 8);
        due(12, "125970 mixes", x.mixes(), 125970);
        due(14, "spent", x.nearest(1, false), -2);
        parts(14, "spent", x, -1);
        x.ask(0, 0, 7, 8);
        due(12, "6435 mixes", x.mixes(), 6435);
        due(15, "spent for best", x.best(1, false), -2);
        x.ask(0, 0, 6, 8);
        due(12, "3003 mixes", x.mixes(), 3003);
        due(15, "not spent for best", x.best(1, false) > 0, true);
        DyeLamps six = on(many(6, 24));
        six.ask(0, 0, 20, 4);
        due(12, "98446 mixes", six.mixes(), 98446);
        due(14, "just not spent", six.nearest(1, false), 0);
        six.ask(0, 0, 17, 6);
        due(12, "100947 mixes", six.mixes(), 100947);
        due(13, "just spent", six.match(1, false), -2);
        due(14, "just spent", six.nearest(1, false), -2);
        due(17, "just spent", six.trick(0, 0, false), -2);
        six.ask(0, 0, 9, 6);
        due(12, "5005 mixes", six.mixes(), 5005);
        due(15, "just spent for best", six.best(1, false), -2);
        six.ask(0, 0, 9, 5);
        due(12, "4921 mixes", six.mixes(), 4921);
        due(15, "just not spent for best", six.best(1, false) > 0, true);
    }

    private static void tricking() {
        DyeLamps x = on(BENCH);
        due(17, "nothing is asked of", x.trick(0, 1, false), -1);
        x.ask(0, 0, 4, 2);
        due(17, "alike by day, far by night", x.trick(0, 1, false), 10000);
        parts(17, "alike by day, far by night", x, 0, 0, -1);
        due(17, "for the odd one", x.trick(0, 1, true), 0);
        due(17, "no such day", x.trick(2, 0, false), -1);
        parts(17, "behind NONE", x, -1, -1);
        due(17, "no such night", x.trick(0, 2, false), -1);
        due(17, "no such night", x.trick(0, -1, false), -1);
        due(17, "no such day", x.trick(-1, 0, false), -1);
        x.ask(0, 1, 0, 2);
        due(17, "none is alike", x.trick(0, 1, false), -1);
        due(18, "none lies there", x.parts(0), -1);
        x.ask(0, 0, 0, 0);
        due(17, "one alone", x.trick(0, 0, false), 5000);
        due(18, "parts(0)", x.parts(0), 0);
        due(18, "parts(2)", x.parts(2), -1);
        due(18, "parts(-1)", x.parts(-1), -1);
    }

    private static void betraying() {
        DyeLamps x = on(BENCH);
        due(20, "no weights lie there", x.weight(0), -1);
        due(19, "betray", x.betray(0, 1, false), 700000);
        due(20, "weight(0)", x.weight(0), 0);
        due(20, "weight(1)", x.weight(1), 10);
        due(20, "weight(2)", x.weight(2), -1);
        due(20, "weight(-1)", x.weight(-1), -1);
        due(19, "betray the vat, odd", x.betray(-1, 0, true), 300000);
        due(19, "no such good", x.betray(0, 2, false), -1);
        due(19, "no such good", x.betray(-2, 0, false), -1);
        due(20, "the weights that lay there stay", x.weight(1), 10);
        due(21, "lamp", x.lamp(0, 1, false), 1);
        due(21, "lamp of like ones", x.lamp(0, 0, false), 0);
        due(19, "betray like ones", x.betray(0, 0, false), 0);
        due(20, "weights of like ones", x.weight(1), 10);
        due(21, "no such good", x.lamp(0, 2, false), -1);
        due(21, "no such good", x.lamp(-2, 0, false), -1);
        DyeLamps day = on("bands 1;dye a price 1 fast 1 of 1;ground g of 9;lamp a of 3;lamp b of 3;lamp c of 2;eye e of 1;good x on g of 12;");
        due(19, "betray", day.betray(-1, 0, false), 240000);
        due(20, "of like lamps the last has all", day.weight(1), 10);
        due(20, "of like lamps the first has none", day.weight(0), 0);
        due(21, "of like lamps the first", day.lamp(-1, 0, false), 0);
    }

    private static void dyeing() {
        DyeLamps x = on(BENCH);
        due(22, "set(1)", x.set(1), true);
        due(37, "ground", x.about(11), 1);
        due(22, "set(2)", x.set(2), false);
        due(22, "set(-1)", x.set(-1), false);
        due(23, "drop(0, 3)", x.drop(0, 3), 3);
        due(25, "vat(0)", x.vat(0), 3);
        due(23, "no room", x.drop(1, 2), -1);
        due(23, "no such dye", x.drop(2, 1), -1);
        due(23, "no such dye", x.drop(-1, 1), -1);
        due(23, "no parts", x.drop(1, 0), -1);
        due(23, "parts below 0", x.drop(1, -1), -1);
        due(23, "parts above 24", x.drop(1, 25), -1);
        due(23, "very many parts", x.drop(1, Integer.MAX_VALUE), -1);
        due(23, "without slip nothing is drawn", x.about(9), 1);
        due(23, "room for one", x.drop(1, 1), 1);
        due(10, "cost of the vat", x.cost(-1), 11);
        due(25, "vat(1)", x.vat(1), 1);
        due(25, "vat(2)", x.vat(2), -1);
        due(25, "vat(-1)", x.vat(-1), -1);
        due(24, "days(1)", x.days(1), 0);
        due(24, "days(3)", x.days(3), 2);
        due(25, "a part less behind each two days", x.vat(0), 1);
        due(24, "days(0)", x.days(0), 0);
        due(24, "days(-1)", x.days(-1), -1);
        due(24, "days(1001)", x.days(1001), -1);
        due(37, "days", x.about(10), 4);
        due(24, "days(1000)", x.days(1000), 1);
        due(25, "no fewer than none", x.vat(0), 0);
        due(25, "fast 0 does not fade", x.vat(1), 1);
        due(37, "days", x.about(10), 1004);
        due(22, "set(0)", x.set(0), true);
        due(22, "no parts then", x.vat(1), 0);
        due(22, "no days then", x.about(10), 0);
    }

    private static void slipping() {
        DyeLamps x = on(BENCH + "slip 5;");
        int w = 1 * 1103515245 + 12345;
        due(23, "a slip, (w >>> 16) % 10 is " + (w >>> 16) % 10, x.drop(0, 1), (w >>> 16) % 10 < 5 ? 2 : 1);
        due(37, "w", x.about(9), w);
        due(34, "seed", x.seed(-1), w);
        due(37, "w may be NONE", x.about(9), -1);
        x.set(0);
        due(23, "as a draw is just not below slip", drawing(x, 5), 1);
        x.set(0);
        due(23, "as a draw is just below slip", drawing(x, 4), 2);
        x.set(0);
        x.seed(9);
        due(23, "all the room", x.drop(0, 4), 4);
        due(23, "drawn all the same", x.about(9), 9 * 1103515245 + 12345);
        due(23, "no room", x.drop(0, 1), -1);
        due(23, "nothing drawn then", x.about(9), 9 * 1103515245 + 12345);
        due(37, "w wraps", x.seed(0), 9 * 1103515245 + 12345);
    }

    /** A drop of one part with a w by which the draw of 10 is as told. */
    private static int drawing(DyeLamps x, int draw) {
        int w = 0;
        while ((w * 1103515245 + 12345 >>> 16) % 10 != draw) {
            w++;
        }
        x.seed(w);
        return x.drop(0, 1);
    }

    private static void imaging() {
        DyeLamps x = on(BENCH);
        x.set(1);
        x.drop(0, 3);
        x.days(2);
        x.seed(42);
        due(35, "image(2)", x.image(2), 2);
        due(35, "image(3)", x.image(3), -1);
        due(35, "image(-1)", x.image(-1), -1);
        x.set(0);
        x.drop(1, 1);
        x.seed(7);
        due(35, "image(0)", x.image(0), 1);
        due(36, "back(1)", x.back(1), -1);
        due(36, "back(3)", x.back(3), -1);
        due(36, "back(-1)", x.back(-1), -1);
        due(36, "nothing done", x.vat(1), 1);
        due(36, "back(2)", x.back(2), 2);
        due(36, "parts", x.vat(0), 2);
        due(36, "parts", x.vat(1), 0);
        due(36, "ground", x.about(11), 1);
        due(36, "days", x.about(10), 2);
        due(36, "w", x.about(9), 42);
        x.drop(0, 1);
        due(36, "the box keeps what it kept", x.back(2), 2);
        due(36, "back(0)", x.back(0), 1);
        due(36, "w", x.about(9), 7);
    }

    private static void recalling() {
        DyeLamps x = on(BENCH);
        due(26, "old", x.old(), 5);
        int[][] want = {{0, -1}, {1, -1}, {0, 0}, {0, 1}, {1, 1}};
        for (int i = 0; i < want.length; i++) {
            due(27, "oldOne(" + i + ", 0)", x.oldOne(i, 0), want[i][0]);
            due(27, "oldOne(" + i + ", 1)", x.oldOne(i, 1), want[i][1]);
        }
        due(27, "oldOne(5, 0)", x.oldOne(5, 0), -2);
        due(27, "oldOne(-1, 0)", x.oldOne(-1, 0), -2);
        due(27, "oldOne(0, 2)", x.oldOne(0, 2), -2);
        due(27, "oldOne(0, -1)", x.oldOne(0, -1), -2);
        // By lamp 0 and eye 0 the five are seen as 55, 50, 40, 65, 90 thousand.
        due(31, "all agree", x.agree(0), 5);
        due(33, "which lamp next", x.next(0, 0), 0);
        due(33, "which eye next", x.next(1, 0), 0);
        due(33, "no two are seen as one", x.next(2, 0), 1);
        due(28, "look", x.look(0, 0, 50, 5), 0);
        due(31, "two agree", x.agree(0), 2);
        due(32, "the first", x.agrees(0, 0), 0);
        due(32, "the second", x.agrees(1, 0), 1);
        due(32, "no third", x.agrees(2, 0), -1);
        due(32, "none below 0", x.agrees(-1, 0), -1);
        due(31, "known before", x.agree(-1), 5);
        due(30, "later", x.later(10), 10);
        due(28, "look", x.look(0, 0, 54, 1), 1);
        due(31, "one agrees", x.agree(10), 1);
        due(31, "known before", x.agree(9), 2);
        due(29, "untell", x.untell(0), true);
        due(29, "untell again", x.untell(0), false);
        due(29, "no such look", x.untell(2), false);
        due(29, "no such look", x.untell(-1), false);
        due(31, "known now", x.agree(10), 1);
        due(31, "known before", x.agree(9), 2);
        due(29, "untell at the time it was told", x.untell(1), true);
        due(31, "none counts", x.agree(10), 5);
        due(31, "from then on", x.agree(Integer.MAX_VALUE), 5);
        due(28, "nobody saw that", x.look(0, 0, 9999999, 0), 2);
        due(31, "none agrees", x.agree(10), 0);
        due(32, "none agrees", x.agrees(0, 10), -1);
        due(33, "none agrees", x.next(0, 10), -1);
        due(33, "next(3)", x.next(3, 0), -1);
        due(33, "next(-1)", x.next(-1, 0), -1);
        due(37, "looks", x.about(6), 3);
    }

    private static void agreeingAtTheEdge() {
        // The good is seen as 99000 * 99 * 9 / 1, without its dye as nothing: no round number of millions.
        DyeLamps x = on("bands 1;most 1;dye a price 1 fast 1 of 99;ground g of 0;lamp l of 99;eye e of 9;good x on g of 1;");
        due(7, "seen", x.seen(0, 0, 0), 88209000);
        x.look(0, 0, 88209 - 9999, 9999);
        due(31, "just so far", x.agree(0), 1);
        x.later(1);
        x.look(0, 0, 88209 - 9999, 9998);
        due(31, "a thousand too far", x.agree(1), 0);
        DyeLamps odd = on("bands 1;most 7;dye a price 1 fast 1 of 10;ground g of 0;lamp l of 1;eye e of 1;good x on g of 4;");
        due(7, "seen", odd.seen(0, 0, 0), 5714);
        odd.look(0, 0, 5, 0);
        due(31, "so much is told to the thousand", odd.agree(0), 0);
        odd.untell(0);
        odd.look(0, 0, 4, 1);
        due(31, "below by less than two thousand", odd.agree(0), 0);
        odd.untell(1);
        odd.look(0, 0, 6, 1);
        due(31, "above by less than one thousand", odd.agree(0), 1);
        // x 990, y 1000, z 2000, x without its dye 1000.
        DyeLamps near = on("bands 1;most 1;over;dye a price 0 fast 0 of 99;ground g of 1;ground h of 2;lamp l of 1;"
                + "eye e of 1;good x on g of 1;good y on g of 0;good z on h of 0;");
        due(7, "seen x", near.seen(0, 0, 0), 990);
        due(7, "seen y", near.seen(1, 0, 0), 1000);
        due(33, "990 and 1000 are not one, 1000 twice is", near.next(2, 0), 2);
        DyeLamps cut = on("bands 2;most 7;dye a price 1 fast 1 of 11 0;dye b price 1 fast 1 of 0 73;ground g of 0 0;"
                + "lamp l of 7 1;eye e of 1 1;good x on g of 1 0;good y on g of 0 1;");
        due(7, "seen x", cut.seen(0, 0, 0), 10997);
        due(7, "seen y", cut.seen(1, 0, 0), 10428);
        cut.look(0, 0, 10, 1);
        due(31, "both agree", cut.agree(0), 2);
        due(33, "both are cut to one", cut.next(2, 0), 2);
    }

    private static void lookingWrongly() {
        DyeLamps x = on(BENCH);
        due(28, "no such lamp", x.look(2, 0, 1, 1), -1);
        due(28, "no such lamp", x.look(-1, 0, 1, 1), -1);
        due(28, "no such eye", x.look(0, 4, 1, 1), -1);
        due(28, "no such eye", x.look(0, -1, 1, 1), -1);
        due(28, "much below 0", x.look(0, 0, -1, 1), -1);
        due(28, "much above", x.look(0, 0, 10000000, 1), -1);
        due(28, "some below 0", x.look(0, 0, 1, -1), -1);
        due(28, "some above", x.look(0, 0, 1, 10000), -1);
        due(37, "no looks", x.about(6), 0);
        for (int i = 0; i < 40; i++) {
            due(28, "look", x.look(0, 0, 0, 9999), i);
        }
        due(28, "the 41st", x.look(0, 0, 0, 9999), -1);
        due(29, "untell the 40th", x.untell(39), true);
        due(28, "there are 40 still", x.look(0, 0, 0, 9999), -1);
        due(31, "all agree", x.agree(0), 5);
        due(30, "later(-1)", x.later(-1), -1);
        due(30, "later(1001)", x.later(1001), -1);
        due(30, "later(0)", x.later(0), 0);
        for (int i = 1; i < 100; i++) {
            x.later(1000);
        }
        due(30, "later(999)", x.later(999), 99999);
        due(30, "above 100000", x.later(2), -1);
        due(30, "100000", x.later(1), 100000);
        due(30, "above 100000", x.later(1), -1);
        due(37, "the time", x.about(7), 100000);
    }

    private static void choosingNext() {
        // Lamp 0 parts none of the two goods, lamp 1 by eye 1 parts them; those left out are alike.
        DyeLamps x = on("bands 2;most 2;dye a price 1 fast 1 of 0 9;dye b price 1 fast 1 of 0 5;ground g of 9 9;"
                + "lamp l of 1 0;lamp m of 1 1;eye e of 1 0;eye f of 0 1;good x on g of 2 0;good y on g of 0 2;");
        // Of band 1 x 9000, y 5000, both without their dye 9000; of band 0 0 0 9000 9000.
        due(33, "lamp", x.next(0, 0), 0);
        due(33, "eye", x.next(1, 0), 0);
        due(33, "the greatest number", x.next(2, 0), 2);
        x.look(0, 0, 0, 0);
        due(31, "the goods agree", x.agree(0), 2);
        due(33, "lamp", x.next(0, 0), 1);
        due(33, "eye", x.next(1, 0), 1);
        due(33, "the greatest number", x.next(2, 0), 1);
        due(33, "known before", x.next(2, -1), 2);
    }

    private static void aboutAll() {
        DyeLamps x = on(BENCH);
        int[] want = {2, 2, 2, 2, 4, 2, 0, 0, 0, 1, 0, 0};
        for (int what = 0; what < want.length; what++) {
            due(37, "about(" + what + ")", x.about(what), want[what]);
        }
        due(37, "about(12)", x.about(12), -1);
        due(37, "about(-1)", x.about(-1), -1);
        due(34, "seed", x.seed(5), 1);
        due(34, "seed", x.seed(6), 5);
        due(37, "NONE", DyeLamps.NONE, -1);
    }

    public static void main(String[] args) {
        newObject();
        feeding();
        benching();
        tokenFaults();
        lineFaults();
        countFaults();
        fullRecipes();
        looking();
        lookingAtLittle();
        asking();
        matching();
        nearing();
        besting();
        spending();
        tricking();
        betraying();
        dyeing();
        slipping();
        imaging();
        recalling();
        agreeingAtTheEdge();
        lookingWrongly();
        choosingNext();
        aboutAll();
        System.out.println(checks + " checks, " + wrong + " went wrong");
        if (wrong != 0) {
            System.exit(1);
        }
    }
}
