/** The boundary cases of what is seen: paragraph 2 and promises 6 to 10, sentence by sentence. */
public final class LightEdgeTest {
    /** x on w throws back 55000 45000, y on s 50000 80000, the bare w 50000 50000. */
    private static final String BENCH = "bands 2;most 4;alike 5;dye r price 3 fast 2 of 80 20;dye b price 2 fast 0 of 10 90;"
            + "ground w of 50 50;ground s of 90 70;lamp d of 1 1;lamp n of 0 2;"
            + "eye p of 1 0;eye q of 0 1;eye t of 1 1;eye o of 0 3;good x on w of 2 1;good y on s of 0 2;";
    private static final String NO_GROUNDS = "bands 1;dye a price 1 fast 1 of 1;lamp l of 1;eye e of 1;";

    private static void mixes() {
        Edge.sentence("A MIX is parts of each dye (whole, together no more than most) on a ground.");
        DyeLamps x = Edge.on(BENCH);
        Edge.due("as many as most", x.drop(0, 3) + x.drop(1, 1), 4);
        Edge.due("no more", x.drop(0, 1), -1);
        Edge.due("no more of another", x.drop(1, 1), -1);
        Edge.hasFault("bands 1;most 4;dye a price 1 fast 1 of 1;ground g of 1;good x on g of 5;", 4, 70);
    }

    private static String shares(int most, int dye, int ground, int parts) {
        return "bands 1;most " + most + ";dye a price 0 fast 0 of " + dye + ";ground g of " + ground + ";lamp l of 1;eye e of 1;"
                + "good x on g of " + parts + ";";
    }

    private static void throwing() {
        Edge.sentence("without over: (parts * what a dye throws back, of all dyes together, and what the ground throws back * the parts"
                + " that are left to most, together) * 1000 / most (cut)");
        Edge.due("no parts: the ground alone", Edge.on(shares(7, 33, 98, 0)).throwsBack(0, 0), 98000);
        Edge.due("all parts: no ground", Edge.on(shares(7, 33, 98, 7)).throwsBack(0, 0), 33000);
        Edge.due("cut: (66 + 490) * 1000 / 7 is 79428.57", Edge.on(shares(7, 33, 98, 2)).throwsBack(0, 0), 79428);
        Edge.due("cut: 6 / 7 of a thousand is 857.14", Edge.on(shares(7, 1, 0, 6)).throwsBack(0, 0), 857);
        Edge.due("most 1, no parts", Edge.on(shares(1, 3, 99, 0)).throwsBack(0, 0), 99000);
        Edge.due("most 1, one part", Edge.on(shares(1, 3, 99, 1)).throwsBack(0, 0), 3000);
        Edge.due("nothing is thrown back", Edge.on(shares(24, 0, 0, 12)).throwsBack(0, 0), 0);
        Edge.due("all is thrown back", Edge.on(shares(24, 99, 99, 13)).throwsBack(0, 0), 99000);
        DyeLamps two = Edge.on("bands 2;most 11;dye a price 0 fast 0 of 7 0;dye b price 0 fast 0 of 0 13;ground g of 1 2;"
                + "good x on g of 3 4;");
        Edge.due("all dyes together, cut once: 25000 / 11", two.throwsBack(0, 0), 2272);
        Edge.due("all dyes together, cut once: 60000 / 11", two.throwsBack(0, 1), 5454);

        Edge.sentence("with over: the ground's * 1000, then for each part of each dye, in their order, that * what the dye throws back"
                + " / 100 (cut)");
        String over = "over;";
        Edge.due("no parts: the ground's", Edge.on(over + shares(7, 33, 98, 0)).throwsBack(0, 0), 98000);
        Edge.due("one part", Edge.on(over + shares(7, 33, 98, 1)).throwsBack(0, 0), 32340);
        Edge.due("two parts, cut: 10672.2", Edge.on(over + shares(7, 33, 98, 2)).throwsBack(0, 0), 10672);
        Edge.due("three parts, cut again: 3521.76", Edge.on(over + shares(7, 33, 98, 3)).throwsBack(0, 0), 3521);
        Edge.due("a dye that throws nothing back", Edge.on(over + shares(7, 0, 99, 1)).throwsBack(0, 0), 0);
        Edge.due("a ground that throws nothing back", Edge.on(over + shares(7, 99, 0, 7)).throwsBack(0, 0), 0);
        int left = 99000;
        for (int part = 0; part < 24; part++) {
            left = left * 99 / 100;
        }
        Edge.due("24 parts", Edge.on(over + shares(24, 99, 99, 24)).throwsBack(0, 0), left);
        DyeLamps order = Edge.on("over;bands 1;most 2;dye a price 0 fast 0 of 15;dye b price 0 fast 0 of 33;ground g of 1;"
                + "good x on g of 1 1;");
        // 1000 * 15 / 100 is 150, * 33 / 100 is 49.5; the other way round 330 and 49.5: both are cut to 49.
        Edge.due("two dyes", order.throwsBack(0, 0), 49);
        DyeLamps turned = Edge.on("over;bands 1;most 3;dye a price 0 fast 0 of 1;dye b price 0 fast 0 of 55;ground g of 1;"
                + "good x on g of 1 2;");
        // 10, 5 (5.5), 2 (2.75); the other way round 550, 302 (302.5), 3 (3.02).
        Edge.due("the first dye lies lowest", turned.throwsBack(0, 0), 2);
    }

    /** Sixteen bands, all that can be thrown back, lit and seen. */
    private static void seeing() {
        Edge.sentence("SEEN of a MIX by a lamp and an eye: of all bands together what it THROWS BACK * the lamp's * the eye's.");
        String row = " of" + " 99".repeat(16) + ";";
        DyeLamps all = Edge.on("bands 16;dye a price 0 fast 0 of" + " 0".repeat(16) + ";ground g" + row + "lamp l" + row + "lamp o of"
                + " 0".repeat(16) + ";eye e of" + " 9".repeat(16) + ";eye f of" + " 0".repeat(16) + ";good x on g of 12;");
        Edge.due("all that can be", all.seen(-1, 0, 0), 16L * 99000 * 99 * 9);
        Edge.due("apart by all that can be", all.apart(-1, 0, 0, false), 16L * 99000 * 99 * 9);
        Edge.due("betrayed by all that can be", all.betray(-1, 0, false), 160L * 99000 * 99 * 9);
        Edge.due("a dark lamp", all.seen(-1, 1, 0), 0);
        Edge.due("a blind eye", all.seen(-1, 0, 1), 0);
        DyeLamps last = Edge.on("bands 16;ground g of" + " 0".repeat(15) + " 7;lamp l of" + " 9".repeat(15) + " 5;eye e of" + " 9".repeat(15) + " 3;");
        Edge.due("the last band counts", last.seen(-1, 0, 0), 7000 * 5 * 3);
        DyeLamps first = Edge.on("bands 16;ground g of 7" + " 0".repeat(15) + ";lamp l of 5" + " 9".repeat(15) + ";eye e of 3" + " 9".repeat(15) + ";");
        Edge.due("the first band counts", first.seen(-1, 0, 0), 7000 * 5 * 3);
    }

    /** The vat on a ground of 9 and a good of nothing, seen by so many eyes of 1, 2, 4 and 8. */
    private static DyeLamps withEyes(int count) {
        StringBuilder s = new StringBuilder("bands 1;dye a price 0 fast 0 of 0;ground g of 9;lamp l of 1;lamp k of 2;good x on g of 12;");
        for (int eye = 0; eye < count; eye++) {
            s.append("eye ").append((char) ('a' + eye)).append(" of ").append(1 << eye).append(';');
        }
        return Edge.on(s.toString());
    }

    private static void observing() {
        Edge.sentence("OBSERVERS: the plain one sees by eyes 0, 1, 2, the odd one by 0, 1, 3 (those of them that are told).");
        int[] plain = {0, 9000, 18000, 36000, 36000};
        int[] odd = {0, 9000, 18000, 18000, 72000};
        for (int eyes = 0; eyes <= 4; eyes++) {
            Edge.due("plain, " + eyes + " eyes", withEyes(eyes).apart(-1, 0, 0, false), plain[eyes]);
            Edge.due("odd, " + eyes + " eyes", withEyes(eyes).apart(-1, 0, 0, true), odd[eyes]);
        }

        Edge.sentence("APART of two MIXES by a lamp, for an OBSERVER: the greatest difference of SEEN of these eyes (0 without eyes).");
        DyeLamps blind = withEyes(0);
        Edge.due("no eyes", blind.apart(-1, 0, 1, false), 0);
        Edge.due("no eyes, odd", blind.apart(-1, 0, 1, true), 0);
        Edge.due("no eyes: alike by all lamps", blind.alike(-1, 0, false), 3);
        DyeLamps x = Edge.on(BENCH);
        Edge.due("the first is seen as less", x.apart(0, 1, 1, false), 70000);
        Edge.due("the first is seen as more", x.apart(1, 0, 1, false), 70000);
        Edge.due("one and the same", x.apart(1, 1, 1, true), 0);
        // By eye p 5000 less, by eye q 35000 more, by eye t 30000 more: not the first, not the last, not their sum.
        Edge.due("the greatest of the eyes", x.apart(0, 1, 0, false), 35000);

        Edge.sentence("ALIKE: APART is no more than alike * 1000.");
        DyeLamps near = Edge.on("alike 88;bands 2;over;dye a price 0 fast 0 of 0 99;ground g of 88 1;lamp l of 1 0;lamp m of 1 1;"
                + "eye e of 1 1;good x on g of 0;good y on g of 1;");
        Edge.due("88000 apart", near.apart(0, 1, 0, false), 88000);
        Edge.due("88010 apart", near.apart(0, 1, 1, false), 88010);
        Edge.due("just so far, and a little farther", near.alike(0, 1, false), 1);
        DyeLamps none = Edge.on("alike 0;bands 1;over;dye a price 0 fast 0 of 99;ground g of 1;lamp l of 1;eye e of 1;"
                + "good x on g of 0;good y on g of 0;good z on g of 1;");
        Edge.due("alike 0: no difference", none.alike(0, 1, false), 1);
        Edge.due("alike 0: one of ten thousandths", none.alike(0, 2, false), 0);

        Edge.sentence("COST: parts * price.");
        DyeLamps dear = Edge.on("bands 1;most 24;dye a price 99 fast 0 of 1;dye b price 0 fast 0 of 1;ground g of 1;good x on g of 24 0;"
                + "good y on g of 0 24;good z on g of 0 0;good u on g of 1 23;");
        Edge.due("the dearest", dear.cost(0), 24 * 99);
        Edge.due("dyes for nothing", dear.cost(1), 0);
        Edge.due("no parts", dear.cost(2), 0);
        Edge.due("one part", dear.cost(3), 99);
    }

    private static void answers() {
        Edge.sentence("What a GOOD (NONE: the VAT) THROWS BACK of a band; NONE if one can't be (the VAT without grounds, too).");
        DyeLamps x = Edge.on(BENCH);
        Edge.due("the first band of the first good", x.throwsBack(0, 0), 55000);
        Edge.due("the last band of the last good", x.throwsBack(1, 1), 80000);
        Edge.due("the vat", x.throwsBack(-1, 1), 50000);
        Edge.outside("throwsBack of a good", y -> x.throwsBack(y, 0), -1, -2, 2);
        Edge.outside("throwsBack of a band", y -> x.throwsBack(0, y), -1, -1, 2);
        Edge.outside("throwsBack of a band of the vat", y -> x.throwsBack(-1, y), -1, -1, 2);
        Edge.due("the vat without grounds", Edge.on(NO_GROUNDS).throwsBack(-1, 0), -1);
        Edge.due("no goods", Edge.on(NO_GROUNDS).throwsBack(0, 0), -1);
        DyeLamps bands = Edge.on("bands 16;ground g of" + " 9".repeat(16) + ";");
        Edge.due("the sixteenth band", bands.throwsBack(-1, 15), 9000);
        Edge.due("a seventeenth", bands.throwsBack(-1, 16), -1);
        DyeLamps few = Edge.on("bands 16;ground g of" + " 9".repeat(16) + ";");
        Edge.sound(few, "bands 1;ground g of 8;");
        Edge.due("bands that were told before", few.throwsBack(-1, 1), -1);

        Edge.sentence("SEEN of a GOOD (NONE: the VAT) by a lamp and an eye; NONE likewise.");
        Edge.due("the last of all", x.seen(1, 1, 3), 480000);
        Edge.due("the vat", x.seen(-1, 0, 2), 100000);
        Edge.outside("seen of a good", y -> x.seen(y, 0, 0), -1, -2, 2);
        Edge.outside("seen by a lamp", y -> x.seen(0, y, 0), -1, -1, 2);
        Edge.outside("seen by an eye", y -> x.seen(0, 0, y), -1, -1, 4);
        Edge.due("the vat without grounds", Edge.on(NO_GROUNDS).seen(-1, 0, 0), -1);
        Edge.due("no lamps", Edge.on("bands 1;ground g of 1;eye e of 1;").seen(-1, 0, 0), -1);
        Edge.due("no eyes", Edge.on("bands 1;ground g of 1;lamp l of 1;").seen(-1, 0, 0), -1);

        Edge.sentence("APART of two GOODS (NONE: the VAT) by a lamp; NONE likewise.");
        Edge.due("the vat and a good", x.apart(-1, 0, 1, true), 30000);
        Edge.due("a good and the vat", x.apart(0, -1, 1, true), 30000);
        Edge.due("the vat and itself", x.apart(-1, -1, 0, false), 0);
        Edge.outside("apart, the first", y -> x.apart(y, 0, 0, false), -1, -2, 2);
        Edge.outside("apart, the second", y -> x.apart(0, y, 0, true), -1, -2, 2);
        Edge.outside("apart by a lamp", y -> x.apart(0, 1, y, false), -1, -1, 2);
        Edge.due("the vat without grounds", Edge.on(NO_GROUNDS).apart(-1, -1, 0, false), -1);
        Edge.due("no lamps", Edge.on("bands 1;ground g of 1;eye e of 1;").apart(-1, -1, 0, false), -1);

        Edge.sentence("Lamps by which two GOODS (NONE: the VAT) are ALIKE, as bits; NONE likewise.");
        Edge.due("by the first alone", x.alike(-1, 0, false), 1);
        Edge.due("by none", x.alike(0, 1, false), 0);
        Edge.due("by all", x.alike(1, 1, true), 3);
        Edge.due("by the last alone", Edge.on("bands 1;dye a price 0 fast 0 of 0;ground g of 9;lamp a of 9;lamp b of 9;lamp c of 9;"
                + "lamp d of 9;lamp e of 9;lamp f of 0;eye e of 9;good x on g of 12;").alike(-1, 0, false), 32);
        Edge.outside("alike, the first", y -> x.alike(y, 0, false), -1, -2, 2);
        Edge.outside("alike, the second", y -> x.alike(0, y, true), -1, -2, 2);
        Edge.due("the vat without grounds", Edge.on(NO_GROUNDS).alike(-1, -1, false), -1);
        Edge.due("no lamps", Edge.on("bands 1;ground g of 1;eye e of 1;").alike(-1, -1, false), 0);

        Edge.sentence("COST of a GOOD (NONE: the VAT); -2 if there is none such.");
        Edge.due("the first good", x.cost(0), 8);
        Edge.due("the last good", x.cost(1), 4);
        Edge.due("the vat without parts", x.cost(-1), 0);
        x.drop(0, 1);
        Edge.due("the vat", x.cost(-1), 3);
        Edge.outside("cost", x::cost, -2, -2, 2);
        Edge.due("the vat without grounds", Edge.on(NO_GROUNDS).cost(-1), 0);
        Edge.due("the vat of a new object", new DyeLamps().cost(-1), 0);
        Edge.due("no goods", new DyeLamps().cost(0), -2);
        Edge.due("below", new DyeLamps().cost(-2), -2);
    }

    public static void main(String[] args) throws Exception {
        mixes();
        throwing();
        seeing();
        observing();
        answers();
        Edge.finish();
    }
}
