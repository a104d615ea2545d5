/** The boundary cases of old recipes and looks: paragraph 4 and promises 26 to 33, sentence by sentence. */
public final class OldEdgeTest {
    /** By lamp d and eye p its five OLD mixes are seen as 55, 50, 40, 65 and 90 thousand. */
    private static final String BENCH = "bands 2;most 4;dye r price 3 fast 2 of 80 20;dye b price 2 fast 0 of 10 90;"
            + "ground w of 50 50;ground s of 90 70;lamp d of 1 1;lamp n of 0 2;"
            + "eye p of 1 0;eye q of 0 1;eye t of 1 1;eye o of 0 3;good x on w of 2 1;good y on s of 0 2;";

    private static void olds() {
        Edge.sentence("OLD mixes: each GOOD, and each GOOD without each dye of which it has parts (numbered: GOODS as told, then, GOOD by GOOD,"
                + " dye by dye, those with one left out).");
        DyeLamps x = Edge.on("bands 1;dye a price 0 fast 0 of 1;dye b price 0 fast 0 of 1;dye c price 0 fast 0 of 1;ground g of 1;"
                + "good x on g of 0 0 0;good y on g of 1 0 2;good z on g of 0 12 0;");
        int[][] want = {{0, -1}, {1, -1}, {2, -1}, {1, 0}, {1, 2}, {2, 1}};
        Edge.due("a good without parts has none left out", x.old(), 6);
        for (int i = 0; i < want.length; i++) {
            Edge.due("its good, " + i, x.oldOne(i, 0), want[i][0]);
            Edge.due("the dye that is left out, " + i, x.oldOne(i, 1), want[i][1]);
        }
        DyeLamps y = Edge.on(BENCH);
        int[] seen = {55, 50, 40, 65, 90};
        for (int i = 0; i < seen.length; i++) {
            DyeLamps one = Edge.on(BENCH);
            one.look(0, 0, seen[i], 0);
            Edge.due("alone seen as " + seen[i], one.agree(0), 1);
            Edge.due("seen as " + seen[i], one.agrees(0, 0), i);
        }
        Edge.due("the parts of a dye left out go to the ground", y.old(), 5);

        Edge.sentence("How many OLD mixes there are.");
        Edge.due("none at first", new DyeLamps().old(), 0);
        Edge.due("none without goods", Edge.on("bands 1;dye a price 0 fast 0 of 1;ground g of 1;").old(), 0);
        Edge.due("one without parts", Edge.on("bands 1;dye a price 0 fast 0 of 1;ground g of 1;good x on g of 0;").old(), 1);
        DyeLamps full = full();
        Edge.due("as many as can be", full.old(), 72);
        Texts.bench(full, "over;");
        Edge.due("none behind a text without goods", full.old(), 0);

        Edge.sentence("Of an OLD mix what 0: its GOOD, 1: the dye that is left out (NONE: none); -2 if there is none such, or for another what.");
        DyeLamps all = full();
        Edge.due("the last good", all.oldOne(7, 0), 7);
        Edge.due("the last good, nothing left out", all.oldOne(7, 1), -1);
        Edge.due("the first with one left out", all.oldOne(8, 0), 0);
        Edge.due("the first with one left out", all.oldOne(8, 1), 0);
        Edge.due("the last of all", all.oldOne(71, 0), 7);
        Edge.due("the last of all", all.oldOne(71, 1), 7);
        Edge.due("one too many", all.oldOne(72, 0), -2);
        Edge.due("one too many", all.oldOne(72, 1), -2);
        Edge.outside("oldOne", i -> y.oldOne(i, 0), -2, -1, 5);
        Edge.outside("oldOne", i -> y.oldOne(i, 1), -2, -1, 5);
        Edge.outside("another what", what -> y.oldOne(0, what), -2, -1, 2);
        Edge.due("none such in a new object", new DyeLamps().oldOne(0, 1), -2);
    }

    private static DyeLamps full() {
        return Edge.on(fullText());
    }

    private static String fullText() {
        StringBuilder s = new StringBuilder("bands 1;");
        for (char c = 'a'; c < 'i'; c++) {
            s.append("dye ").append(c).append(" price 1 fast 1 of 9;");
        }
        s.append("ground g of 3;lamp l of 0;eye e of 9;");
        for (char c = 'a'; c < 'i'; c++) {
            s.append("good ").append(c).append(" on g of 1 1 1 1 1 1 1 1;");
        }
        return s.toString();
    }

    private static void telling() {
        Edge.sentence("LOOKS, 40 at most, are TOLD at a TIME (0 at first, goes on), UNTOLD at a later one or the same");
        DyeLamps x = Edge.on(BENCH);
        Edge.due("the time at first", x.about(7), 0);
        for (int i = 0; i < 40; i++) {
            Edge.due("look", x.look(0, 0, 0, 9999), i);
        }
        Edge.due("the 41st", x.look(0, 0, 0, 9999), -1);
        Edge.due("40 of them", x.about(6), 40);
        Edge.due("untell the first", x.untell(0), true);
        Edge.due("untell the last", x.untell(39), true);
        Edge.due("those untold are looks still", x.about(6), 40);
        Edge.due("no room for one more", x.look(0, 0, 0, 9999), -1);
        DyeLamps same = Edge.on(BENCH);
        same.later(4);
        same.look(0, 0, 50, 0);
        Edge.due("untold at the time it was told", same.untell(0), true);
        for (int k = 3; k <= 5; k++) {
            Edge.due("it never counts, at " + k, same.agree(k), 5);
        }

        Edge.sentence("by a lamp and an eye something was SEEN as so much, in thousands, give or take some (0 .. 9999)");
        DyeLamps some = Edge.on(BENCH);
        Edge.due("give or take nothing", some.look(0, 0, 50, 0), 0);
        Edge.due("one alone is so", some.agree(0), 1);
        Edge.due("give or take all", some.look(0, 0, 50, 9999), 1);
        Edge.due("-1", some.look(0, 0, 50, -1), -1);
        Edge.due("10000", some.look(0, 0, 50, 10000), -1);

        // By lamp n: eye q and o see 2 and 6 times band 1, which is 45, 80, 60, 35 and 70 thousand; eye p sees nothing.
        int[][] by = {{0, 0, 55, 0}, {0, 1, 80, 1}, {0, 2, 130, 1}, {0, 1, 60, 2}, {0, 3, 105, 3}, {1, 1, 140, 4}, {1, 3, 480, 1}, {1, 2, 90, 0}};
        for (int[] b : by) {
            DyeLamps one = Edge.on(BENCH);
            one.look(b[0], b[1], b[2], 0);
            Edge.due("by lamp " + b[0] + " and eye " + b[1], one.agree(0), 1);
            Edge.due("by lamp " + b[0] + " and eye " + b[1], one.agrees(0, 0), b[3]);
        }
        DyeLamps dark = Edge.on(BENCH);
        dark.look(1, 0, 0, 0);
        Edge.due("by lamp 1 eye 0 sees nothing of any", dark.agree(0), 5);

        Edge.sentence("As known at k those count that were TOLD at k or before, not UNTOLD at k or before.");
        DyeLamps known = Edge.on(BENCH);
        known.later(10);
        known.look(0, 0, 55, 0);
        known.later(10);
        known.untell(0);
        int[][] want = {{Integer.MIN_VALUE, 5}, {-1, 5}, {0, 5}, {9, 5}, {10, 1}, {11, 1}, {19, 1}, {20, 5}, {21, 5}, {Integer.MAX_VALUE, 5}};
        for (int[] w : want) {
            Edge.due("known at " + w[0], known.agree(w[0]), w[1]);
        }
        DyeLamps first = Edge.on(BENCH);
        first.look(0, 0, 55, 0);
        Edge.due("told at 0, known at -1", first.agree(-1), 5);
        Edge.due("told at 0, known at 0", first.agree(0), 1);
        Edge.due("not untold: at any time behind", first.agree(Integer.MAX_VALUE), 1);
    }

    private static void agreeing() {
        Edge.sentence("AGREE: OLD mixes by which all that count are so (SEEN is no farther from so much * 1000 than some * 1000).");
        // One good, seen as 88209000, and without its dye as nothing.
        String far = "bands 1;most 1;dye a price 1 fast 1 of 99;ground g of 0;lamp l of 99;eye e of 9;good x on g of 1;";
        int[][] edges = {{88209 - 9999, 9999, 1}, {88209 - 9999, 9998, 0}, {88209 + 9999, 9999, 1}, {88209 + 9999, 9998, 0}, {88209, 0, 1},
            {88208, 0, 0}, {88210, 0, 0}, {9999, 9999, 1}, {9999, 9998, 0}, {0, 0, 1}, {1, 0, 0}, {9999999, 9999, 0}};
        for (int[] e : edges) {
            DyeLamps x = Edge.on(far);
            x.look(0, 0, e[0], e[1]);
            Edge.due("seen as " + e[0] + ", give or take " + e[1], x.agree(0), e[2]);
        }
        // One good, seen as 5714: no whole thousand, and nothing is cut off it.
        String odd = "bands 1;most 7;dye a price 1 fast 1 of 10;ground g of 0;lamp l of 1;eye e of 1;good x on g of 4;";
        int[][] cut = {{5, 0, 0}, {6, 0, 0}, {5, 1, 1}, {6, 1, 1}, {4, 1, 0}, {7, 1, 0}, {4, 2, 1}, {7, 2, 1}};
        for (int[] e : cut) {
            DyeLamps x = Edge.on(odd);
            x.look(0, 0, e[0], e[1]);
            Edge.due("5714, seen as " + e[0] + ", give or take " + e[1], x.agree(0), e[2]);
        }
        DyeLamps all = Edge.on(BENCH);
        all.look(0, 0, 60, 10);
        Edge.due("50 to 70: three", all.agree(0), 3);
        all.look(0, 0, 50, 5);
        Edge.due("45 to 55, too: two", all.agree(0), 2);
        all.look(1, 3, 0, 9999);
        Edge.due("by another lamp and eye, all", all.agree(0), 2);
        all.look(0, 0, 65, 0);
        Edge.due("not one is all of that", all.agree(0), 0);
        // Without eyes or lamps nothing can be told, so all agree.
        Edge.due("no looks", Edge.on("bands 1;dye a price 0 fast 0 of 1;ground g of 1;good x on g of 1;").agree(0), 2);

        Edge.sentence("How many AGREE.");
        DyeLamps x = Edge.on(BENCH);
        Edge.due("no looks: all", x.agree(0), 5);
        Edge.due("no goods", new DyeLamps().agree(0), 0);
        Edge.due("as many as can be", full().agree(0), 72);

        Edge.sentence("The i-th OLD mix that AGREES (from 0 on): its number; NONE if there is none such.");
        Edge.due("the first of all", x.agrees(0, 0), 0);
        Edge.due("the last of all", x.agrees(4, 0), 4);
        x.look(0, 0, 60, 10);
        int[] left = {0, 1, 3};
        for (int i = 0; i < left.length; i++) {
            Edge.due("the " + i + "-th", x.agrees(i, 0), left[i]);
        }
        Edge.outside("agrees", i -> x.agrees(i, 0), -1, -1, 3);
        Edge.due("as known before", x.agrees(3, -1), 3);
        x.look(0, 0, 9999999, 0);
        Edge.due("none agrees", x.agrees(0, 0), -1);
        Edge.due("the last of 72", full().agrees(71, 0), 71);
        Edge.due("one too many", full().agrees(72, 0), -1);
        Edge.due("no goods", new DyeLamps().agrees(0, 0), -1);
    }

    private static void nexts(String what, DyeLamps x, int k, int lamp, int eye, int number) {
        Edge.due(what + ", the lamp", x.next(0, k), lamp);
        Edge.due(what + ", the eye", x.next(1, k), eye);
        Edge.due(what + ", the greatest number", x.next(2, k), number);
    }

    private static void next() {
        Edge.sentence("NEXT: the lamp and eye by which the greatest number of those that AGREE with one SEEN / 1000 (cut) is least; of like ones"
                + " the first lamp, then eye.");
        // Of band 0 the four are 0 0 9 9 thousand, of band 1 9 5 9 9 thousand.
        String text = "bands 2;most 2;dye a price 1 fast 1 of 0 9;dye b price 1 fast 1 of 0 5;ground g of 9 9;";
        String goods = "good x on g of 2 0;good y on g of 0 2;";
        nexts("two by band 0, three by band 1", Edge.on(text + "lamp l of 0 1;lamp m of 1 0;eye e of 1 1;" + goods), 0, 1, 0, 2);
        nexts("of like ones the first lamp", Edge.on(text + "lamp l of 1 0;lamp m of 1 0;eye e of 1 1;" + goods), 0, 0, 0, 2);
        nexts("of like ones the first eye", Edge.on(text + "lamp l of 1 1;eye d of 0 1;eye e of 1 0;eye f of 1 0;" + goods), 0, 0, 1, 2);
        nexts("the first lamp's last eye ahead of the second lamp's first",
                Edge.on(text + "lamp l of 1 0;lamp m of 1 1;eye d of 0 1;eye e of 1 0;" + goods), 0, 0, 1, 2);
        nexts("none is seen by any", Edge.on(text + "lamp l of 0 0;eye d of 0 1;eye e of 1 0;" + goods), 0, 0, 0, 4);
        DyeLamps fourth = Edge.on(text + "lamp l of 0 0;lamp m of 1 0;eye a of 0 0;eye b of 0 0;eye c of 0 0;eye d of 1 0;" + goods);
        nexts("the fourth eye counts", fourth, 0, 1, 3, 2);
        DyeLamps told = Edge.on(text + "lamp l of 1 0;lamp m of 0 1;eye e of 1 1;" + goods);
        nexts("no looks", told, 0, 0, 0, 2);
        told.look(0, 0, 0, 0);
        nexts("those that agree alone", told, 0, 1, 0, 1);
        nexts("as known before", told, -1, 0, 0, 2);
        nexts("72 that are seen as one", full(), 0, 0, 0, 72);
        DyeLamps before = Edge.on(text + "lamp l of 0 1;lamp m of 1 0;eye e of 1 1;" + goods);
        nexts("the second lamp", before, 0, 1, 0, 2);
        Edge.sound(before, fullText());
        nexts("72 that are seen as one, behind another answer", before, 0, 0, 0, 72);
        // What was told in texts before is no lamp and no eye any more.
        String parting = text + "lamp l of 0 0;lamp m of 1 0;eye d of 0 0;eye e of 1 0;" + goods;
        DyeLamps lamps = Edge.on(parting);
        Edge.sound(lamps, parting);
        nexts("the second lamp, the second eye", lamps, 0, 1, 1, 2);
        Edge.sound(lamps, text + "lamp l of 0 0;eye d of 0 0;eye e of 1 0;" + goods);
        nexts("a lamp told before", lamps, 0, 0, 0, 4);
        Edge.sound(lamps, parting);
        Edge.sound(lamps, parting);
        Edge.sound(lamps, text + "lamp l of 0 0;lamp m of 1 0;eye d of 0 0;" + goods);
        nexts("an eye told before", lamps, 0, 0, 0, 4);
        // 10997 and 10428 are cut to one; by the second lamp 1571 and 20856 are not.
        DyeLamps cut = Edge.on("bands 2;most 7;dye a price 1 fast 1 of 11 0;dye b price 1 fast 1 of 0 73;ground g of 0 0;"
                + "lamp l of 7 1;lamp m of 1 2;eye e of 1 1;good x on g of 1 0;good y on g of 0 1;");
        cut.look(0, 0, 10, 1);
        nexts("cut to one", cut, 0, 1, 0, 1);
        // 990 and 1000 are not one.
        DyeLamps near = Edge.on("bands 1;most 1;over;dye a price 0 fast 0 of 99;ground g of 1;lamp l of 1;eye e of 1;good x on g of 1;");
        nexts("990 and 1000", near, 0, 0, 0, 1);

        Edge.sentence("NEXT what 0: the lamp, 1: the eye, 2: that greatest number; NONE without lamps, eyes, if none AGREES, or for another what.");
        DyeLamps x = Edge.on(BENCH);
        Edge.outside("another what", what -> x.next(what, 0), -1, -1, 3);
        x.look(0, 0, 9999999, 0);
        nexts("none agrees", x, 0, -1, -1, -1);
        nexts("some did before", x, -1, 0, 0, 1);
        nexts("no lamps", Edge.on(text + "eye e of 1 1;" + goods), 0, -1, -1, -1);
        nexts("no eyes", Edge.on(text + "lamp l of 1 1;" + goods), 0, -1, -1, -1);
        nexts("no goods", Edge.on(text + "lamp l of 1 1;eye e of 1 1;"), 0, -1, -1, -1);
        nexts("a new object", new DyeLamps(), 0, -1, -1, -1);
    }

    private static void looking() {
        Edge.sentence("A LOOK (so much 0 .. 9999999): its number");
        DyeLamps x = Edge.on(BENCH);
        Edge.due("nothing", x.look(0, 0, 0, 0), 0);
        Edge.due("all", x.look(1, 3, 9999999, 9999), 1);
        Edge.due("the same again", x.look(1, 3, 9999999, 9999), 2);

        Edge.sentence("NONE, doing nothing, if one can't be, or there are 40");
        int[][] wrong = {{-1, 0, 1, 1}, {2, 0, 1, 1}, {0, -1, 1, 1}, {0, 2, 1, 1}, {0, 0, -1, 1}, {0, 0, 10000000, 1}, {0, 0, 1, -1}, {0, 0, 1, 10000}};
        for (int[] w : wrong) {
            Edge.refusedWhenBusy("look(" + w[0] + ", " + w[1] + ", " + w[2] + ", " + w[3] + ")", y -> y.look(w[0], w[1], w[2], w[3]), -1);
        }
        for (int far : new int[] {Integer.MIN_VALUE, Integer.MAX_VALUE}) {
            Edge.due("lamp " + far, x.look(far, 0, 1, 1), -1);
            Edge.due("eye " + far, x.look(0, far, 1, 1), -1);
            Edge.due("so much " + far, x.look(0, 0, far, 1), -1);
            Edge.due("some " + far, x.look(0, 0, 1, far), -1);
        }
        Edge.due("none came", x.about(6), 3);
        Edge.refused("the 41st look", OldEdgeTest::withFortyLooks, y -> y.look(0, 0, 0, 0), -1);
        Edge.due("a fifth eye", x.look(0, 4, 1, 1), -1);
        Edge.due("no lamps, no eyes", new DyeLamps().look(0, 0, 0, 0), -1);
    }

    private static DyeLamps withFortyLooks() {
        DyeLamps x = Edge.busy();
        for (int i = 2; i < 40; i++) {
            x.look(0, 0, 60, 99);
        }
        return x;
    }

    private static void untelling() {
        Edge.sentence("It is UNTOLD: true; false if it is so already, or there is none such.");
        DyeLamps x = withFortyLooks();
        Edge.due("untold already", x.untell(0), false);
        Edge.due("the second", x.untell(1), true);
        Edge.due("the last", x.untell(39), true);
        Edge.due("the last again", x.untell(39), false);
        Edge.refused("untold already, at another time", () -> {
            DyeLamps y = Edge.busy();
            y.later(1);
            return y;
        }, y -> Edge.bit(y.untell(0)), 0);
        for (int look : new int[] {-1, 2, 40, Integer.MIN_VALUE, Integer.MAX_VALUE}) {
            Edge.refusedWhenBusy("untell(" + look + ")", y -> Edge.bit(y.untell(look)), 0);
        }
        Edge.due("none at all", new DyeLamps().untell(0), false);
        DyeLamps cleared = Edge.busy();
        cleared.end(0);
        Texts.bench(cleared, Edge.BUSY);
        Edge.due("a look told ahead of bench()", cleared.untell(1), false);
        DyeLamps gone = Edge.on(BENCH);
        gone.look(0, 0, 0, 0);
        Edge.sound(gone, BENCH);
        Edge.due("a look told ahead of bench()", gone.untell(0), false);
    }

    private static void later() {
        Edge.sentence("So much later (0 .. 1000): the TIME");
        DyeLamps x = Edge.on(BENCH);
        Edge.due("no later", x.later(0), 0);
        Edge.due("a little later", x.later(1), 1);
        Edge.due("a thousand later", x.later(1000), 1001);
        Edge.due("the time", x.about(7), 1001);

        Edge.sentence("NONE, doing nothing, for another number, or if it would be above 100,000");
        for (int by : new int[] {-1, 1001, Integer.MIN_VALUE, Integer.MAX_VALUE}) {
            Edge.refusedWhenBusy("later(" + by + ")", y -> y.later(by), -1);
        }
        for (int i = 1; i < 99; i++) {
            x.later(1000);
        }
        Edge.due("99,001", x.about(7), 99001);
        Edge.due("100,001", x.later(1000), -1);
        Edge.due("the time stays", x.about(7), 99001);
        Edge.due("100,000", x.later(999), 100000);
        Edge.due("one more", x.later(1), -1);
        Edge.due("none more", x.later(0), 100000);
        Edge.due("a look at the last time", x.look(0, 0, 55, 0), 0);
        Edge.due("known then", x.agree(100000), 1);
        Edge.due("known before", x.agree(99999), 5);
        Edge.due("untold then", x.untell(0), true);
        Edge.due("known then no more", x.agree(100000), 5);
        Texts.bench(x, "over;");
        Edge.due("the time stays with another bench", x.later(1), -1);
    }

    public static void main(String[] args) throws Exception {
        olds();
        telling();
        agreeing();
        next();
        looking();
        untelling();
        later();
        Edge.finish();
    }
}
