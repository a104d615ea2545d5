import java.util.function.ToLongFunction;

/** The boundary cases of what is asked of and found: paragraph 3 and promises 11 to 18, sentence by sentence. */
public final class SearchEdgeTest {
    /** x on w throws back 55000 45000, y on s 50000 80000, the bare w 50000 50000. */
    private static final String BENCH = "bands 2;most 4;alike 5;dye r price 3 fast 2 of 80 20;dye b price 2 fast 0 of 10 90;"
            + "ground w of 50 50;ground s of 90 70;lamp d of 1 1;lamp n of 0 2;"
            + "eye p of 1 0;eye q of 0 1;eye t of 1 1;eye o of 0 3;good x on w of 2 1;good y on s of 0 2;";

    /** One band, a black ground, alike only what is the same: dyes told by their price and what they throw back. */
    private static String plain(int most, int good, int... dyes) {
        StringBuilder s = new StringBuilder("bands 1;alike 0;ground g of 0;lamp l of 1;eye e of 1;most ").append(most).append(';');
        for (int i = 0; i < dyes.length; i += 2) {
            s.append("dye ").append((char) ('a' + i)).append(" price ").append(dyes[i]).append(" fast 0 of ").append(dyes[i + 1]).append(';');
        }
        // The good is told by parts of the last dye.
        return s.append("good x on g of").append(" 0".repeat(dyes.length / 2 - 1)).append(' ').append(good).append(';').toString();
    }

    private static DyeLamps asked(String text, int m, int u) {
        DyeLamps x = Edge.on(text);
        Edge.due("ask", x.ask(0, 0, m, u), true);
        return x;
    }

    private static String many(int dyes) {
        StringBuilder s = new StringBuilder("bands 1;most 24;ground g of 9;lamp l of 1;eye e of 1;");
        for (int i = 0; i < dyes; i++) {
            s.append("dye ").append((char) ('a' + i)).append(" price 1 fast 1 of ").append(i).append(';');
        }
        return s.append("good x on g of").append(" 0".repeat(dyes - 1)).append(" 1;").toString();
    }

    private static void sets() {
        Edge.sentence("Of a GOOD, a ground, a set of lamps (as bits, one at least), an OBSERVER, at most m parts (0 .. most) of at most"
                + " u unlike dyes (0 .. 8), all MIXES on the ground that can be are asked");
        DyeLamps x = asked(BENCH, 4, 2);
        for (int lamps : new int[] {0, 4, 5, 7, 8, 64, -1, -2, Integer.MIN_VALUE, Integer.MIN_VALUE + 1, Integer.MAX_VALUE}) {
            Edge.due("match by the lamps " + lamps, x.match(lamps, false), -1);
            Edge.due("nearest by the lamps " + lamps, x.nearest(lamps, true), -1);
            Edge.due("best by the lamps " + lamps, x.best(lamps, false), -1);
        }
        for (int lamps = 1; lamps < 4; lamps++) {
            Edge.due("nearest by the lamps " + lamps, x.nearest(lamps, false), 0);
        }
        DyeLamps six = Edge.on("bands 1;dye a price 0 fast 0 of 0;ground g of 9;lamp a of 1;lamp b of 2;lamp c of 3;lamp d of 4;lamp e of 5;"
                + "lamp f of 6;eye e of 1;good x on g of 12;");
        six.ask(0, 0, 0, 8);
        for (int lamp = 0; lamp < 6; lamp++) {
            Edge.due("lamp " + lamp + " alone", six.nearest(1 << lamp, false), 9000 * (lamp + 1));
        }
        Edge.due("all six", six.nearest(63, false), 54000);
        Edge.due("a seventh", six.nearest(64, false), -1);
        Edge.due("a seventh beside", six.nearest(127, false), -1);
        DyeLamps dark = asked("bands 1;dye a price 0 fast 0 of 0;ground g of 9;eye e of 1;good x on g of 12;", 3, 1);
        Edge.due("no lamps told, match", dark.match(1, false), -1);
        Edge.due("no lamps told, nearest", dark.nearest(1, false), -1);
        Edge.due("no lamps told, best", dark.best(1, false), -1);
        Edge.due("no lamps told, trick", dark.trick(0, 0, false), -1);
        DyeLamps few = asked(plain(4, 4, 0, 9), 3, 1);
        Edge.due("at most m parts: 3 of 4", few.nearest(1, false), 9000 - 6750);
        Edge.due("all of most", few.ask(0, 0, 4, 1), true);
        Edge.due("all of most", few.nearest(1, false), 0);
        DyeLamps unlike = asked(plain(2, 1, 0, 4, 0, 8, 0, 12), 2, 1);
        // The good throws back 6000: of one dye 2000 4000, 4000 8000, 6000 12000; of the first and the second 6000, too.
        Edge.due("of one dye", unlike.match(1, false), 0);
        Edge.parts("of one dye", unlike, 0, 0, 1);
        unlike.ask(0, 0, 2, 0);
        Edge.due("of no dye", unlike.nearest(1, false), 6000);
        DyeLamps ground = Edge.on(BENCH);
        ground.ask(1, 0, 0, 8);
        Edge.due("on the ground that is asked of, not on the good's", ground.nearest(1, false), 30000);
        ground.ask(1, 1, 0, 8);
        Edge.due("on the good's own ground", ground.nearest(1, false), 40000);
    }

    /** Mixes of eight unlike dyes, and mixes that lie one over the other, are found as well. */
    private static void widest() {
        Edge.sentence("all MIXES on the ground that can be are asked");
        String rows = "";
        for (int i = 0; i < 8; i++) {
            rows += "dye " + (char) ('a' + i) + " price 1 fast 0 of " + (1 << i) % 99 + ";";
        }
        DyeLamps x = asked("bands 1;alike 0;most 8;ground g of 0;lamp l of 1;eye e of 1;" + rows + "good x on g of 1 1 1 1 1 1 1 1;", 8, 8);
        Edge.due("one part of each", x.match(1, false) <= 8 && x.nearest(1, false) == 0, true);
        DyeLamps over = asked("over;bands 8;alike 0;most 8;ground g of" + " 99".repeat(8) + ";lamp l of" + " 1".repeat(8) + ";eye e of"
                + " 1".repeat(8) + ";" + onlyBands() + "good x on g of 1 1 1 1 1 1 1 1;", 8, 8);
        Edge.due("12870 mixes", over.mixes(), 12870);
        Edge.due("each takes a band away: all eight are needed", over.match(1, false), 36);
        Edge.parts("all eight", over, 1, 1, 1, 1, 1, 1, 1, 1);
        Edge.due("all eight are nearest", over.nearest(1, false), 0);
        Edge.parts("all eight", over, 1, 1, 1, 1, 1, 1, 1, 1);
        Edge.due("all eight trick", over.trick(0, 0, false), 0);
        Edge.parts("all eight", over, 1, 1, 1, 1, 1, 1, 1, 1);
        over.ask(0, 0, 8, 7);
        Edge.due("seven of them are not enough", over.match(1, false), -1);
        int left = 99000;
        for (int part = 0; part < 8; part++) {
            left = left * 99 / 100;
        }
        Edge.due("one band is left under eight parts", over.nearest(1, false), left);
        over.ask(0, 0, 1, 1);
        Edge.due("of one part all dyes are best alike", over.best(1, false), 8);
        for (int i = 0; i < 8; i++) {
            Edge.due("the " + i + "-th", over.pick(i), 8 - i);
            Edge.due("the " + i + "-th", over.parts(7 - i), 1);
        }
        DyeLamps steps = asked("over;bands 1;alike 0;most 3;ground g of 80;ground h of 20;lamp l of 1;eye e of 1;dye a price 5 fast 0 of 50;"
                + "dye b price 1 fast 0 of 90;good x on h of 0 0;", 3, 2);
        Edge.due("80, 40, 20", steps.match(1, false), 10);
        Edge.parts("two parts of a", steps, 2, 0);
        Edge.due("80, 40, 20", steps.best(1, false), 1);
        Edge.due("80, 40, 20", steps.nearest(1, false), 0);
        steps.ask(0, 0, 1, 2);
        Edge.due("80, 40", steps.nearest(1, false), 20000);
    }

    /** Eight dyes over eight bands: each takes one band away and lets all others pass as it can. */
    private static String onlyBands() {
        StringBuilder s = new StringBuilder();
        for (int i = 0; i < 8; i++) {
            s.append("dye ").append((char) ('a' + i)).append(" price ").append(i + 1).append(" fast 0 of");
            for (int band = 0; band < 8; band++) {
                s.append(band == i ? " 0" : " 99");
            }
            s.append(';');
        }
        return s.toString();
    }

    private static void spent() {
        Edge.sentence("SPENT if there are more than 100,000 (for BEST: 5,000).");
        DyeLamps x = asked(many(6), 20, 4);
        Edge.due("as many as can be below 100,000", x.mixes(), 98446);
        Edge.due("match", x.match(1, false), 0);
        Edge.due("nearest", x.nearest(1, false), 0);
        Edge.due("trick", x.trick(0, 0, false) >= 0, true);
        Edge.due("best", x.best(1, false), -2);
        x.ask(0, 0, 17, 6);
        Edge.due("as few as can be above 100,000", x.mixes(), 100947);
        Edge.due("match", x.match(1, false), -2);
        Edge.due("nearest", x.nearest(1, false), -2);
        Edge.due("trick", x.trick(0, 0, false), -2);
        Edge.due("best", x.best(1, false), -2);
        x.ask(0, 0, 9, 6);
        Edge.due("as few as can be above 5,000", x.mixes(), 5005);
        Edge.due("match", x.match(1, false), 0);
        Edge.due("nearest", x.nearest(1, false), 0);
        Edge.due("best", x.best(1, false), -2);
        DyeLamps four = asked(many(4), 19, 3);
        Edge.due("as many as can be below 5,000", four.mixes(), 4979);
        Edge.due("best", four.best(1, false) > 0, true);
        DyeLamps blind = asked("bands 1;most 24;ground g of 9;lamp l of 1;dye a price 1 fast 1 of 1;dye b price 1 fast 1 of 1;"
                + "dye c price 1 fast 1 of 1;dye d price 1 fast 1 of 1;good x on g of 0 0 0 0;", 19, 3);
        Edge.due("without eyes all of them are best", blind.best(1, false), 4979);
        Edge.due("the last of them", blind.pick(4978), 19);
        Edge.parts("the last of them", blind, 19, 0, 0, 0);
        Edge.due("none behind the last", blind.pick(4979), -1);
        DyeLamps eight = asked(many(8), 24, 8);
        Edge.due("all that can be", eight.mixes(), 10518300);
        Edge.due("match", eight.match(1, false), -2);
        Edge.due("nearest", eight.nearest(1, true), -2);
        Edge.due("best", eight.best(1, false), -2);
        Edge.due("trick", eight.trick(0, 0, true), -2);
    }

    private static void ties(String what, ToLongFunction<DyeLamps> find, long answer) {
        DyeLamps cheap = asked(plain(4, 1, 1, 2, 3, 4), 4, 2);
        Edge.due(what + ", the cheaper", find.applyAsLong(cheap), answer < 0 ? 2 : answer);
        Edge.parts(what + ", two cheap parts, not one dear part", cheap, 2, 0);
        DyeLamps fewer = asked(plain(4, 2, 2, 4, 1, 2), 4, 2);
        Edge.due(what + ", fewer parts", find.applyAsLong(fewer), answer < 0 ? 2 : answer);
        Edge.parts(what + ", one part, not two of like cost", fewer, 1, 0);
        DyeLamps first = asked(plain(4, 1, 2, 4, 2, 4), 4, 2);
        Edge.due(what + ", the first", find.applyAsLong(first), answer < 0 ? 2 : answer);
        Edge.parts(what + ", the first row", first, 0, 1);
        DyeLamps three = asked(plain(4, 3, 0, 2, 0, 2, 0, 2), 4, 2);
        Edge.due(what + ", the first of ten rows", find.applyAsLong(three), answer < 0 ? 0 : answer);
        Edge.parts(what + ", the first of ten rows", three, 0, 0, 3);
    }

    private static void matching() {
        Edge.sentence("MATCH: of those that are ALIKE the GOOD by all lamps of the set that of least COST, of like ones of fewest parts,"
                + " then the first.");
        ties("match", x -> x.match(1, false), -1);
        // Alike by lamp l are those with a part of a or none, by lamp m those with a part of b, by both those with both.
        DyeLamps x = asked("bands 2;alike 0;most 3;ground g of 0 0;lamp l of 1 0;lamp m of 0 1;eye e of 1 1;dye a price 5 fast 0 of 9 0;"
                + "dye b price 3 fast 0 of 0 9;good x on g of 1 1;", 3, 2);
        Edge.due("by the first", x.match(1, false), 5);
        Edge.due("by the second", x.match(2, false), 3);
        Edge.due("by both", x.match(3, false), 8);
        Edge.parts("by both", x, 1, 1);
        DyeLamps edge = asked("alike 3;" + plain(1, 1, 0, 4, 9, 7).replace("alike 0;", ""), 1, 2);
        Edge.due("3000 apart is alike", edge.match(1, false), 0);
        Edge.parts("3000 apart is alike", edge, 1, 0);
        DyeLamps far = asked("alike 2;" + plain(1, 1, 0, 4, 9, 7).replace("alike 0;", ""), 1, 2);
        Edge.due("3000 apart is not", far.match(1, false), 9);
    }

    private static void nearing() {
        Edge.sentence("NEAREST: that of which the greatest APART by these lamps is least; of like ones as for MATCH.");
        ties("nearest", x -> x.nearest(1, false), 0);
        // Apart by l and m: bare 6000 6000, a 6000 0 (the least sum), b 4000 4000.
        DyeLamps x = asked("bands 2;most 1;ground g of 0 0;ground h of 6 6;lamp l of 1 0;lamp m of 0 1;eye e of 1 1;"
                + "dye a price 0 fast 0 of 0 6;dye b price 1 fast 0 of 2 2;good x on h of 0 0;", 1, 2);
        Edge.due("by both", x.nearest(3, false), 4000);
        Edge.parts("the greatest counts, not all together", x, 0, 1);
        Edge.due("by the first", x.nearest(1, false), 4000);
        Edge.due("by the second", x.nearest(2, false), 0);
        Edge.parts("by the second", x, 1, 0);
        DyeLamps sides = asked("bands 1;most 1;ground g of 0;ground h of 5;lamp l of 1;eye e of 1;dye a price 0 fast 0 of 4;"
                + "dye b price 0 fast 0 of 6;good x on h of 0 0;", 1, 2);
        Edge.due("1000 below and 1000 above are like ones", sides.nearest(1, false), 1000);
        Edge.parts("1000 below and 1000 above", sides, 0, 1);
    }

    private static void besting() {
        Edge.sentence("BEST: all of which none other is no farther APART by each of the lamps and less by one; by their order.");
        // Apart by l and m: bare 6000 6000, c 6000 4000, b 4000 6000, a 4000 6000.
        DyeLamps x = asked("bands 2;most 1;ground g of 0 0;ground h of 6 6;lamp l of 1 0;lamp m of 0 1;eye e of 1 1;"
                + "dye a price 7 fast 0 of 2 0;dye b price 5 fast 0 of 2 0;dye c price 3 fast 0 of 0 2;good x on h of 0 0 0;", 1, 3);
        Edge.due("the bare ground is beaten by less by one and like by the other", x.best(3, false), 3);
        Edge.parts("the first by their order", x, 0, 0, 1);
        Edge.due("pick(0)", x.pick(0), 3);
        Edge.due("two that are like are both best", x.pick(1), 5);
        Edge.due("pick(2)", x.pick(2), 7);
        Edge.due("pick(3)", x.pick(3), -1);
        Edge.due("by the first alone", x.best(1, false), 2);
        Edge.due("b ahead of a", x.pick(0), 5);
        Edge.due("by the second alone", x.best(2, false), 1);
        Edge.due("c", x.pick(0), 3);
        // The one that beats all comes last of all.
        DyeLamps last = asked("bands 1;most 1;ground g of 0;ground h of 6;lamp l of 1;eye e of 1;dye a price 7 fast 0 of 5;"
                + "dye b price 5 fast 0 of 4;good x on h of 0 0;", 1, 2);
        Edge.due("the last one beats all", last.best(1, false), 1);
        Edge.parts("the last one beats all", last, 1, 0);
        // By their order 6000 6000, 9000 1000, 5000 5000, 10000 2000: the third beats the first, the second the last.
        DyeLamps turns = asked("bands 2;most 1;ground g of 14 14;ground h of 20 20;lamp l of 1 0;lamp m of 0 1;eye e of 1 1;"
                + "dye a price 1 fast 0 of 10 18;dye b price 2 fast 0 of 15 15;dye c price 3 fast 0 of 11 19;good x on h of 0 0 0;", 1, 3);
        Edge.due("two are left", turns.best(3, false), 2);
        Edge.due("the second", turns.pick(0), 3);
        Edge.due("the third", turns.pick(1), 2);
        DyeLamps one = asked(BENCH, 0, 0);
        Edge.due("one mix alone is best", one.best(3, true), 1);
    }

    private static void tricking() {
        Edge.sentence("TRICK by a lamp of day and one of night (the set is not asked): of those ALIKE by day that one that is farthest APART"
                + " at night; of like ones as for MATCH.");
        ties("trick", x -> x.trick(0, 0, false), 0);
        // By day band 0 is seen, at night band 1.
        DyeLamps x = asked("bands 2;alike 2;most 1;ground g of 5 5;lamp d of 1 0;lamp n of 0 1;eye e of 1 1;dye a price 1 fast 0 of 7 9;"
                + "dye b price 1 fast 0 of 8 99;dye c price 1 fast 0 of 3 2;good x on g of 0 0 0;", 1, 3);
        Edge.due("2000 apart by day is alike, 3000 is not", x.trick(0, 1, false), 4000);
        Edge.parts("a", x, 1, 0, 0);
        Edge.due("night by day", x.trick(1, 0, false), 0);
        Edge.parts("alike by band 1 is the bare ground alone", x, 0, 0, 0);
        Edge.due("one lamp for both", x.trick(0, 0, false), 2000);
        Edge.parts("the first of a and c", x, 0, 0, 1);
    }

    private static void ask() {
        Edge.sentence("What is asked of in MATCH, NEAREST, BEST, TRICK: the GOOD, the ground, m, u: true");
        DyeLamps x = Edge.busy();
        for (int good = 0; good < 2; good++) {
            for (int ground = 0; ground < 2; ground++) {
                for (int m : new int[] {0, 6}) {
                    for (int u : new int[] {0, 8}) {
                        Edge.due("ask(" + good + ", " + ground + ", " + m + ", " + u + ")", x.ask(good, ground, m, u), true);
                    }
                }
            }
        }
        Edge.parts("the mix that lies there stays", x, 3, 0);
        Edge.due("the latest bests stay", x.pick(0), 8);
        Edge.due("ask for one unlike dye", x.ask(1, 0, 6, 1), true);
        Edge.due("the latest ask counts", x.mixes(), 13);

        Edge.sentence("false, changing nothing, if one can't be");
        int[][] wrong = {{-1, 0, 3, 2}, {2, 0, 3, 2}, {0, -1, 3, 2}, {0, 2, 3, 2}, {0, 0, -1, 2}, {0, 0, 7, 2}, {0, 0, 3, -1}, {0, 0, 3, 9}};
        for (int[] a : wrong) {
            Edge.refusedWhenBusy("ask(" + a[0] + ", " + a[1] + ", " + a[2] + ", " + a[3] + ")", y -> Edge.bit(y.ask(a[0], a[1], a[2], a[3])), 0);
        }
        for (int far : Edge.EXTREMES) {
            DyeLamps y = Edge.busy();
            Edge.due("good " + far, y.ask(far, 0, 3, 2), false);
            Edge.due("ground " + far, y.ask(0, far, 3, 2), false);
            Edge.due("m " + far, y.ask(0, 0, far, 2), false);
            Edge.due("u " + far, y.ask(0, 0, 3, far), false);
            Edge.due("that changed nothing", y.mixes(), 10);
        }
        DyeLamps most = Edge.on(many(2));
        Edge.due("m of 24", most.ask(0, 0, 24, 2), true);
        Edge.due("m of 25", most.ask(0, 0, 25, 2), false);
        DyeLamps unasked = Edge.on(BENCH);
        unasked.ask(0, 0, 5, 2);
        Edge.due("nothing is asked of still", unasked.mixes(), -1);
    }

    private static void mixes() {
        Edge.sentence("How many MIXES that are; NONE if nothing is asked of.");
        Edge.due("nothing at first", new DyeLamps().mixes(), -1);
        Edge.due("nothing behind bench()", Edge.on(BENCH).mixes(), -1);
        int[][] counts = {{0, 0, 1}, {0, 8, 1}, {24, 0, 1}, {1, 1, 4}, {1, 3, 4}, {2, 1, 7}, {2, 2, 10}, {2, 3, 10}, {3, 2, 19}, {3, 3, 20},
            {24, 3, 2925}, {24, 8, 2925}, {24, 1, 73}};
        DyeLamps x = Edge.on(many(3));
        for (int[] c : counts) {
            x.ask(0, 0, c[0], c[1]);
            Edge.due("at most " + c[0] + " parts of at most " + c[1] + " of 3 dyes", x.mixes(), c[2]);
        }
        DyeLamps eight = asked(many(8), 24, 8);
        Edge.due("24 parts of 8 dyes", eight.mixes(), 10518300);
        eight.ask(0, 0, 24, 7);
        Edge.due("24 parts of 7 of 8 dyes", eight.mixes(), 10518300 - 735471);
        eight.ask(0, 0, 8, 8);
        Edge.due("8 parts of 8 dyes", eight.mixes(), 12870);
        eight.ask(0, 0, 8, 7);
        Edge.due("8 parts of 7 of 8 dyes", eight.mixes(), 12869);
        DyeLamps one = asked(many(1), 24, 8);
        Edge.due("24 parts of one dye", one.mixes(), 25);
    }

    /** Of all four finders alike: nothing asked of, what can't be, SPENT, and what lies there then. */
    private static void refusals(String what, ToLongFunction<DyeLamps> find, ToLongFunction<DyeLamps> wrong) {
        Edge.due(what + ", nothing asked of", find.applyAsLong(Edge.on(BENCH)), -1);
        DyeLamps x = asked(BENCH, 4, 2);
        x.nearest(1, false);
        Edge.due(what + ", a mix lies there", x.parts(0), 2);
        Edge.due(what + ", one that can't be", wrong.applyAsLong(x), -1);
        Edge.parts(what + ", none lies there behind NONE", x, -1, -1);
        Edge.due(what + ", found", find.applyAsLong(x) >= 0, true);
        Edge.due(what + ", a mix lies there then", x.parts(0) >= 0, true);
        DyeLamps spent = asked(many(8), 2, 8);
        spent.nearest(1, false);
        Edge.due(what + ", a mix lies there", spent.parts(0), 0);
        spent.ask(0, 0, 24, 8);
        Edge.due(what + ", it lies there behind ask", spent.parts(0), 0);
        Edge.due(what + ", spent", find.applyAsLong(spent), -2);
        Edge.parts(what + ", none lies there behind -2", spent, -1, -1);
        Edge.due(what + ", what can't be is told ahead of SPENT", wrong.applyAsLong(spent), -1);
    }

    private static void finders() {
        Edge.sentence("MATCH: the COST; NONE if there is none, one can't be, or nothing is asked of; -2 if SPENT. The MIX lies there then"
                + " (behind NONE, -2 none does).");
        refusals("match", x -> x.match(1, false), x -> x.match(0, false));
        DyeLamps none = asked(BENCH, 4, 2);
        none.nearest(1, false);
        none.ask(1, 0, 0, 2);
        Edge.due("none is alike", none.match(1, false), -1);
        Edge.parts("none is alike", none, -1, -1);
        DyeLamps bare = asked(BENCH, 4, 2);
        Edge.due("the bare ground costs nothing", bare.match(1, false), 0);
        Edge.parts("the bare ground is a mix", bare, 0, 0);

        Edge.sentence("NEAREST: that greatest APART; likewise.");
        refusals("nearest", x -> x.nearest(1, false), x -> x.nearest(4, false));

        Edge.sentence("How many are BEST; likewise (the first one lies there; behind NONE, -2 none is BEST).");
        refusals("best", x -> x.best(1, false), x -> x.best(-1, false));
        DyeLamps x = Edge.busy();
        Edge.due("two are best", x.best(3, false), 2);
        Edge.parts("the first one lies there", x, 2, 1);
        Edge.due("no lamps", x.best(0, false), -1);
        Edge.due("none is best behind NONE", x.pick(0), -1);
        Edge.parts("none lies there behind NONE", x, -1, -1);
        DyeLamps spent = asked(many(8), 2, 8);
        Edge.due("some are best", spent.best(1, false) > 0, true);
        spent.ask(0, 0, 24, 8);
        Edge.due("they are best still", spent.pick(0) >= 0, true);
        Edge.due("spent", spent.best(1, false), -2);
        Edge.due("none is best behind -2", spent.pick(0), -1);

        Edge.sentence("TRICK: how far APART at night; likewise.");
        refusals("trick", y -> y.trick(0, 0, false), y -> y.trick(0, 2, false));
        DyeLamps lamps = asked(BENCH, 4, 2);
        Edge.outside("trick by day", y -> lamps.trick(y, 0, false), -1, -1, 2);
        Edge.outside("trick at night", y -> lamps.trick(0, y, false), -1, -1, 2);
        Edge.due("the last lamp for both", lamps.trick(1, 1, true), 0);
        lamps.ask(1, 0, 0, 2);
        Edge.due("none is alike by day", lamps.trick(0, 1, false), -1);
        Edge.parts("none is alike by day", lamps, -1, -1);
    }

    private static void picking() {
        Edge.sentence("The i-th (from 0 on) of the latest best() lies there: its COST; NONE if there is none such (what lies there stays).");
        DyeLamps x = Edge.busy();
        Edge.due("pick(0)", x.pick(0), 8);
        Edge.parts("pick(0)", x, 2, 1);
        Edge.due("pick(1)", x.pick(1), 9);
        Edge.parts("pick(1)", x, 3, 0);
        for (int i : new int[] {-1, 2, 3, Integer.MIN_VALUE, Integer.MAX_VALUE}) {
            Edge.refusedWhenBusy("pick(" + i + ")", y -> y.pick(i), -1);
        }
        Edge.due("match finds none", x.match(1, false), -1);
        Edge.due("pick behind that", x.pick(1), 9);
        Edge.parts("pick behind that", x, 3, 0);
        Edge.due("no best() yet", asked(BENCH, 4, 2).pick(0), -1);
        DyeLamps fewer = Edge.busy();
        fewer.ask(0, 1, 0, 2);
        Edge.due("the latest best()", fewer.best(3, false), 1);
        Edge.due("not those of the best() before", fewer.pick(1), -1);
        Edge.due("the latest best()", fewer.pick(0), 0);

        Edge.sentence("Parts of a dye of the MIX that lies there; NONE if there is none, or no such dye.");
        DyeLamps y = Edge.busy();
        Edge.due("the first dye", y.parts(0), 3);
        Edge.due("the last dye", y.parts(1), 0);
        Edge.outside("parts", y::parts, -1, -1, 2);
        Edge.due("no mix lies there", Edge.on(BENCH).parts(0), -1);
        DyeLamps eight = asked(many(8), 1, 1);
        eight.nearest(1, false);
        Edge.due("the eighth dye", eight.parts(7), 1);
        Edge.due("a ninth", eight.parts(8), -1);
    }

    public static void main(String[] args) throws Exception {
        sets();
        widest();
        spent();
        matching();
        nearing();
        besting();
        tricking();
        ask();
        mixes();
        finders();
        picking();
        Edge.finish();
    }
}
