/** The boundary cases of the lamp that betrays: BETRAY, LAMP and promises 19 to 21, sentence by sentence. */
public final class BetrayEdgeTest {
    private static final String NO_GROUNDS = "bands 1;dye a price 1 fast 1 of 1;lamp l of 1;eye e of 1;";

    /** Two bands, one part of one dye: x takes away 9 of the first band, y of the second; lamps as told. */
    private static DyeLamps with(String... lamps) {
        StringBuilder s = new StringBuilder("bands 2;most 1;dye a price 0 fast 0 of 0 9;dye b price 0 fast 0 of 9 0;ground g of 9 9;"
                + "eye e of 1 0;eye f of 0 1;eye k of 0 0;eye o of 1 1;good x on g of 1 0;good y on g of 0 1;");
        for (int i = 0; i < lamps.length; i++) {
            s.append("lamp ").append((char) ('a' + i)).append(" of ").append(lamps[i]).append(';');
        }
        return Edge.on(s.toString());
    }

    private static void weights(String what, DyeLamps x, int... want) {
        for (int lamp = 0; lamp < want.length; lamp++) {
            Edge.due(what + ", weight of lamp " + lamp, x.weight(lamp), want[lamp]);
        }
    }

    private static void betraying() {
        Edge.sentence("BETRAY of two MIXES: weights of all lamps (whole, 0 .. 10, together 10; a mixed lamp's row is weights * rows,"
                + " together) by which they are farthest APART");
        DyeLamps one = with("1 0");
        Edge.due("one lamp alone", one.betray(-1, 0, false), 90000);
        weights("one lamp alone", one, 10, -1);
        DyeLamps two = with("2 0", "1 3");
        Edge.due("by band 0 the first", two.betray(-1, 0, false), 180000);
        weights("by band 0 the first", two, 10, 0);
        Edge.due("by band 1 the second", two.betray(-1, 1, false), 270000);
        weights("by band 1 the second", two, 0, 10);
        // x is less of band 0 and y less of band 1: the odd one's eye o sees both, and they take from one another.
        DyeLamps both = with("5 5", "3 0");
        Edge.due("the odd one, by the eyes of one band", both.betray(0, 1, true), 450000);
        weights("the odd one", both, 10, 0);
        Edge.due("alike all the same", with("0 0", "0 0").betray(0, 1, true), 0);
        DyeLamps six = with("1 1", "1 2", "1 3", "1 4", "1 5", "1 6");
        Edge.due("six lamps", six.betray(1, -1, false), 540000);
        weights("six lamps", six, 0, 0, 0, 0, 0, 10);

        Edge.sentence("of like ones the first row of weights (the first lamp counts most)");
        DyeLamps like = with("3 0", "3 0", "2 0");
        Edge.due("two lamps are like ones", like.betray(-1, 0, false), 270000);
        weights("the first row has least of the first lamp", like, 0, 10, 0);
        DyeLamps same = with("3 0", "3 0", "2 0", "3 1");
        Edge.due("three lamps are like ones", same.betray(-1, 0, false), 270000);
        weights("three lamps are like ones", same, 0, 0, 0, 10);
        Edge.due("one and the same mix", same.betray(0, 0, false), 0);
        weights("all rows are like ones", same, 0, 0, 0, 10);
        // By the first lamp x is seen as less by eye e, by the second y by eye f: mixed they are less than each alone.
        DyeLamps cross = with("4 0", "0 4");
        Edge.due("far by unlike eyes", cross.betray(0, 1, false), 360000);
        weights("far by unlike eyes", cross, 0, 10);
        DyeLamps signs = with("4 0", "0 4");
        Edge.due("far by one eye, both ways", signs.betray(1, 0, true), 360000);
        weights("far by one eye, both ways", signs, 0, 10);

        Edge.sentence("LAMP: the lamp by which they are; of like ones the first.");
        Edge.due("one lamp alone", one.lamp(-1, 0, false), 0);
        Edge.due("the second", two.lamp(-1, 1, false), 1);
        Edge.due("the last of six", six.lamp(-1, 1, false), 5);
        Edge.due("of like ones the first", same.lamp(-1, 0, false), 0);
        Edge.due("of like ones the first, not the first lamp", with("1 0", "3 0", "3 0").lamp(-1, 0, false), 1);
        Edge.due("one and the same mix", same.lamp(0, 0, true), 0);
    }

    private static void answers() {
        Edge.sentence("BETRAY of two GOODS (NONE: the VAT): how far APART; NONE if one can't be, or there are no lamps.");
        DyeLamps x = with("1 0", "0 2");
        Edge.due("two goods", x.betray(0, 1, false), 180000);
        Edge.due("the vat and a good", x.betray(-1, 1, false), 180000);
        Edge.due("a good and the vat", x.betray(0, -1, false), 90000);
        Edge.due("the vat and itself", x.betray(-1, -1, false), 0);
        Edge.outside("the first", y -> x.betray(y, 0, false), -1, -2, 2);
        Edge.outside("the second", y -> x.betray(0, y, true), -1, -2, 2);
        Edge.due("no lamps", with().betray(0, 1, false), -1);
        Edge.due("the vat without grounds", Edge.on(NO_GROUNDS).betray(-1, -1, false), -1);
        Edge.due("a new object", new DyeLamps().betray(-1, -1, false), -1);
        DyeLamps blind = Edge.on("bands 1;dye a price 1 fast 1 of 1;ground g of 5;lamp l of 1;lamp k of 1;good x on g of 3;");
        Edge.due("no eyes", blind.betray(-1, 0, false), 0);
        weights("no eyes", blind, 0, 10);

        Edge.sentence("The weights lie there then (behind NONE those that lay there).");
        DyeLamps w = with("2 0", "0 1");
        w.betray(-1, 0, false);
        weights("they lie there", w, 10, 0);
        w.betray(0, 2, false);
        weights("behind NONE", w, 10, 0);
        w.betray(-2, 1, false);
        weights("behind NONE", w, 10, 0);
        w.betray(-1, 1, false);
        weights("others lie there", w, 0, 10);
        w.lamp(-1, 0, false);
        weights("lamp() lays none", w, 0, 10);
        DyeLamps none = with("2 0");
        none.betray(2, 0, false);
        Edge.due("none lay there", none.weight(0), -1);
        Edge.refusedWhenBusy("betray(0, 2)", y -> y.betray(0, 2, false), -1);
        Edge.refusedWhenBusy("betray(-2, 0)", y -> y.betray(-2, 0, false), -1);

        Edge.sentence("The weight of a lamp that lies there; NONE if there is none.");
        Edge.due("no weights at first", with("1 1").weight(0), -1);
        Edge.due("the first lamp", w.weight(0), 0);
        Edge.due("the last lamp", w.weight(1), 10);
        Edge.outside("weight", w::weight, -1, -1, 2);
        DyeLamps six = with("1 1", "1 2", "1 3", "1 4", "1 5", "1 6");
        six.betray(0, 1, false);
        Edge.due("the sixth lamp", six.weight(5), 10);
        Edge.due("a seventh", six.weight(6), -1);

        Edge.sentence("LAMP of two GOODS (NONE: the VAT); NONE likewise.");
        Edge.due("the vat and a good", x.lamp(-1, 1, false), 1);
        Edge.due("a good and the vat", x.lamp(0, -1, false), 0);
        Edge.due("the vat and itself", x.lamp(-1, -1, false), 0);
        Edge.outside("the first", y -> x.lamp(y, 0, false), -1, -2, 2);
        Edge.outside("the second", y -> x.lamp(0, y, true), -1, -2, 2);
        Edge.due("no lamps", with().lamp(0, 1, false), -1);
        Edge.due("the vat without grounds", Edge.on(NO_GROUNDS).lamp(-1, -1, false), -1);
        Edge.due("no eyes: all are like", blind.lamp(-1, 0, true), 0);
    }

    public static void main(String[] args) throws Exception {
        betraying();
        answers();
        Edge.finish();
    }
}
