/** The boundary cases of the vat: paragraph 4 and promises 22 to 25 and 34 to 36, sentence by sentence. */
public final class VatEdgeTest {
    private static final String BENCH = "bands 1;most 6;dye a price 1 fast 2 of 50;dye b price 1 fast 0 of 10;dye c price 1 fast 3 of 90;"
            + "ground g of 20;ground h of 80;";
    private static final String NO_GROUNDS = "bands 1;dye a price 1 fast 1 of 1;";

    /** What w becomes, worked out without wrapping. */
    private static int drawn(int w) {
        return (int) (Math.floorMod(Math.floorMod(w, 1L << 32) * 1103515245L + 12345, 1L << 32));
    }

    private static int tenth(int w) {
        return (int) (Math.floorMod((long) w, 1L << 32) / 65536 % 10);
    }

    /** A w from which the next DRAW of 10 is as told, and leaves a w below 0 or not. */
    private static int ahead(int draw, boolean below) {
        int w = 1;
        while (tenth(drawn(w)) != draw || drawn(w) < 0 != below) {
            w++;
        }
        return w;
    }

    private static void atFirst() {
        Edge.sentence("In earnest there is a VAT: a MIX (no parts, on ground 0 at first).");
        DyeLamps x = Edge.on(BENCH);
        Edge.vat("at first", x, 0, 0, 0);
        Edge.due("on ground 0", x.about(11), 0);
        Edge.due("ground 0 is what it throws back", x.throwsBack(-1, 0), 20000);
        Edge.due("no days", x.about(10), 0);
        Edge.due("a new object's vat has no dyes", new DyeLamps().vat(0), -1);

        Edge.sentence("One is SET on a ground (no parts then).");
        x.drop(0, 3);
        x.days(1);
        Edge.due("set", x.set(1), true);
        Edge.vat("no parts", x, 0, 0, 0);
        Edge.due("on ground 1", x.about(11), 1);
        Edge.due("no days", x.about(10), 0);
        Edge.due("ground 1 is what it throws back", x.throwsBack(-1, 0), 80000);
        x.drop(1, 6);
        Edge.due("set on the ground it is on", x.set(1), true);
        Edge.vat("no parts", x, 0, 0, 0);
    }

    private static void slipping() {
        Edge.sentence("A DROP of a dye: so many parts come, and, if slip is not 0, as a DRAW of 10 is below it, one more (if there is room"
                + " to most).");
        for (int slip = 0; slip <= 9; slip++) {
            DyeLamps x = Edge.on(BENCH + "slip " + slip + ";");
            for (int draw = 0; draw <= 9; draw++) {
                int w = ahead(draw, draw % 2 == 0);
                x.set(0);
                x.seed(w);
                Edge.due("slip " + slip + ", a draw of " + draw, x.drop(0, 2), draw < slip ? 3 : 2);
                Edge.vat("slip " + slip + ", a draw of " + draw, x, draw < slip ? 3 : 2, 0, 0);
                Edge.due("w with slip " + slip, x.about(9), slip == 0 ? w : drawn(w));
            }
        }
        DyeLamps x = Edge.on(BENCH + "slip 9;");
        x.seed(ahead(0, false));
        Edge.due("all the room at once", x.drop(0, 6), 6);
        Edge.vat("no room for one more", x, 6, 0, 0);
        Edge.due("drawn all the same", x.about(9), drawn(ahead(0, false)));
        x.set(0);
        x.seed(ahead(0, true));
        Edge.due("room for one more", x.drop(0, 5), 6);
        x.set(0);
        x.seed(ahead(9, true));
        Edge.due("nine is not below nine", x.drop(0, 5), 5);
        x.seed(ahead(0, true));
        Edge.due("the last part", x.drop(1, 1), 1);
        Edge.vat("no room for one more", x, 5, 1, 0);

        Edge.sentence("DRAW of n: w becomes w * 1103515245 + 12345 (wrapping; 1 at first); (w >>> 16) modulo n.");
        DyeLamps first = Edge.on(BENCH + "slip 9;");
        Edge.due("1 at first", first.about(9), 1);
        Edge.due("a draw of 8", first.drop(0, 1), 2);
        Edge.due("w", first.about(9), 1103527590);
        Edge.due("a draw behind it", first.drop(0, 1) > 0, true);
        Edge.due("w wraps", first.about(9), drawn(1103527590));
        Edge.due("w wraps below 0", first.about(9), -1770082073);
        for (int w : new int[] {0, -1, Integer.MAX_VALUE, Integer.MIN_VALUE}) {
            first.set(0);
            first.seed(w);
            Edge.due("a draw from " + w, first.drop(0, 1), tenth(drawn(w)) < 9 ? 2 : 1);
            Edge.due("w behind " + w, first.about(9), drawn(w));
        }
    }

    private static void fading() {
        Edge.sentence("A DAY in the sun: behind each fast DAYS (numbered from 1; fast is not 0) of the VAT since it was SET each dye has a part"
                + " less, if it has any.");
        DyeLamps x = Edge.on(BENCH);
        x.drop(0, 2);
        x.drop(1, 2);
        x.drop(2, 2);
        int[][] want = {{2, 2, 2}, {1, 2, 2}, {1, 2, 1}, {0, 2, 1}, {0, 2, 1}, {0, 2, 0}, {0, 2, 0}};
        int[] gone = {0, 1, 1, 1, 0, 1, 0};
        for (int day = 1; day <= 7; day++) {
            Edge.due("gone on day " + day, x.days(1), gone[day - 1]);
            Edge.vat("behind day " + day, x, want[day - 1]);
        }
        DyeLamps late = Edge.on(BENCH);
        late.days(1);
        late.drop(0, 1);
        Edge.due("days since it was set, not since the drop", late.days(1), 1);
        late.drop(0, 1);
        late.days(1);
        late.set(0);
        late.drop(0, 1);
        Edge.due("set anew on day 3: its first day", late.days(1), 0);
        Edge.due("its second", late.days(1), 1);
        DyeLamps both = Edge.on(BENCH);
        both.drop(0, 3);
        both.drop(2, 3);
        both.days(5);
        Edge.due("two dyes on the sixth day", both.days(1), 2);
        DyeLamps fast = Edge.on("bands 1;dye a price 0 fast 1 of 1;dye b price 0 fast 99 of 1;ground g of 1;");
        fast.drop(0, 3);
        fast.drop(1, 3);
        Edge.due("fast 1: each day", fast.days(2), 2);
        Edge.due("up to day 98", fast.days(96), 1);
        Edge.vat("fast 99 ahead of day 99", fast, 0, 3);
        Edge.due("day 99", fast.days(1), 1);
        Edge.due("up to day 197", fast.days(98), 0);
        Edge.due("day 198", fast.days(1), 1);
    }

    private static void setAndDrop() {
        Edge.sentence("The VAT is SET on a ground: true; false if there is none such.");
        DyeLamps x = Edge.on(BENCH);
        Edge.due("the first", x.set(0), true);
        Edge.due("the last", x.set(1), true);
        for (int ground : new int[] {-1, 2, 4, Integer.MIN_VALUE, Integer.MAX_VALUE}) {
            Edge.refusedWhenBusy("set(" + ground + ")", y -> Edge.bit(y.set(ground)), 0);
        }
        Edge.due("no grounds", Edge.on(NO_GROUNDS).set(0), false);
        DyeLamps four = Edge.on("bands 1;ground a of 1;ground b of 2;ground c of 3;ground d of 4;");
        Edge.due("the fourth", four.set(3), true);
        Edge.due("the fourth", four.throwsBack(-1, 0), 4000);
        Edge.due("a fifth", four.set(4), false);
        Edge.due("the fourth still", four.about(11), 3);

        Edge.sentence("A DROP (1 .. 24 parts): how many parts came");
        Edge.due("one part", x.drop(0, 1), 1);
        Edge.due("of the last dye", x.drop(2, 5), 5);
        Edge.vat("both are in it", x, 1, 0, 5);
        DyeLamps full = Edge.on("bands 1;most 24;dye a price 1 fast 1 of 1;ground g of 1;");
        Edge.due("24 parts", full.drop(0, 24), 24);
        full.set(0);
        Edge.due("25 parts", full.drop(0, 25), -1);

        Edge.sentence("NONE, doing nothing, if one can't be, there is no room for them, or there are no grounds");
        int[][] wrong = {{-1, 1}, {2, 1}, {8, 1}, {0, 0}, {0, -1}, {0, 3}, {1, 6}, {0, 24}, {0, 25}, {0, Integer.MAX_VALUE}, {0, Integer.MIN_VALUE},
            {Integer.MIN_VALUE, 1}, {Integer.MAX_VALUE, 1}};
        for (int[] w : wrong) {
            Edge.refusedWhenBusy("drop(" + w[0] + ", " + w[1] + ")", y -> y.drop(w[0], w[1]), -1);
        }
        Edge.due("room for two", Edge.busy().drop(0, 2), 2);
        Edge.refused("no room for one", () -> {
            DyeLamps y = Edge.busy();
            y.drop(1, 2);
            return y;
        }, y -> y.drop(0, 1), -1);
        DyeLamps bare = Edge.on("slip 5;" + NO_GROUNDS);
        Edge.due("no grounds", bare.drop(0, 1), -1);
        Edge.vat("no grounds", bare, 0);
        Edge.due("no grounds: nothing is drawn", bare.about(9), 1);
        Edge.due("no dyes", Edge.on("bands 1;ground g of 1;").drop(0, 1), -1);
    }

    private static void daysAndVat() {
        Edge.sentence("So many DAYS (0 .. 1000) in the sun: how many parts went");
        DyeLamps x = Edge.on(BENCH);
        x.drop(0, 2);
        x.drop(1, 1);
        x.drop(2, 3);
        Edge.due("no days", x.days(0), 0);
        Edge.due("none of them counts", x.about(10), 0);
        Edge.due("a thousand", x.days(1000), 5);
        Edge.due("a thousand days", x.about(10), 1000);
        Edge.vat("fast 0 stays", x, 0, 1, 0);
        Edge.due("nothing more goes", x.days(1000), 0);
        for (int i = 0; i < 400; i++) {
            x.days(1000);
        }
        Edge.due("days go on", x.about(10), 402000);
        StringBuilder dyes = new StringBuilder("bands 1;");
        for (char c = 'a'; c < 'i'; c++) {
            dyes.append("dye ").append(c).append(" price 0 fast 1 of 1;");
        }
        DyeLamps eight = Edge.on(dyes + "ground g of 1;");
        for (int dye = 0; dye < 8; dye++) {
            eight.drop(dye, 1);
        }
        Edge.due("eight dyes", eight.days(1), 8);
        Edge.due("eight dyes", eight.days(1), 0);
        DyeLamps bare = Edge.on(NO_GROUNDS);
        Edge.due("no grounds", bare.days(5), 0);
        Edge.due("no grounds: days go on", bare.about(10), 5);

        Edge.sentence("NONE, doing nothing, for another number.");
        for (int days : new int[] {-1, 1001, Integer.MIN_VALUE, Integer.MAX_VALUE}) {
            Edge.refusedWhenBusy("days(" + days + ")", y -> y.days(days), -1);
        }

        Edge.sentence("Parts of a dye in the VAT; NONE if there is none such.");
        DyeLamps y = Edge.on(BENCH);
        y.drop(0, 1);
        y.drop(2, 3);
        Edge.vat("parts", y, 1, 0, 3);
        Edge.outside("vat", y::vat, -1, -1, 3);
        Edge.due("no grounds", Edge.on(NO_GROUNDS).vat(0), 0);
        Edge.due("no dyes", new DyeLamps().vat(0), -1);
    }

    private static void seed() {
        Edge.sentence("w is so much: what it was.");
        DyeLamps x = new DyeLamps();
        Edge.due("1 at first", x.seed(Integer.MIN_VALUE), 1);
        Edge.due("the least", x.seed(Integer.MAX_VALUE), Integer.MIN_VALUE);
        Edge.due("the greatest", x.seed(-1), Integer.MAX_VALUE);
        Edge.due("-1", x.seed(0), -1);
        Edge.due("0", x.about(9), 0);
    }

    private static void images() {
        Edge.sentence("The VAT (ground, parts, DAYS) and w are kept in a BOX 0 .. 2: the parts in it; NONE if there is none such.");
        DyeLamps x = Edge.on(BENCH);
        for (int box = 0; box < 3; box++) {
            x.seed(100 + box);
            x.set(box % 2);
            x.drop(1, box + 1);
            x.days(box);
            Edge.due("image(" + box + ")", x.image(box), box + 1);
        }
        Edge.vat("the vat stays", x, 0, 3, 0);
        for (int box = 0; box < 3; box++) {
            Edge.due("back(" + box + ")", x.back(box), box + 1);
            Edge.vat("box " + box, x, 0, box + 1, 0);
            Edge.due("w of box " + box, x.about(9), 100 + box);
            Edge.due("days of box " + box, x.about(10), box);
            Edge.due("ground of box " + box, x.about(11), box % 2);
        }
        for (int box : new int[] {-1, 3, Integer.MIN_VALUE, Integer.MAX_VALUE}) {
            Edge.refusedWhenBusy("image(" + box + ")", y -> y.image(box), -1);
        }
        x.set(0);
        Edge.due("a vat without parts", x.image(0), 0);
        Edge.due("what was kept before is gone", x.back(0), 0);
        DyeLamps bare = new DyeLamps();
        Edge.due("a vat without grounds", bare.image(1), 0);
        Edge.due("a vat without grounds", bare.back(1), 0);

        Edge.sentence("All is as it was kept: the parts in the VAT; NONE, doing nothing, if nothing was.");
        DyeLamps y = Edge.on(BENCH);
        y.set(1);
        y.drop(0, 3);
        y.days(1);
        y.seed(42);
        y.image(1);
        y.days(1);
        y.drop(1, 2);
        Edge.due("back", y.back(1), 3);
        Edge.vat("back", y, 3, 0, 0);
        Edge.due("the days go on from there", y.days(1), 1);
        Edge.due("the box has what it kept still", y.back(1), 3);
        Edge.due("w", y.about(9), 42);
        y.later(3);
        y.back(1);
        Edge.due("the time is not kept", y.about(7), 3);
        Edge.refusedWhenBusy("back(1)", z -> z.back(1), -1);
        for (int box : new int[] {-1, 3, Integer.MIN_VALUE, Integer.MAX_VALUE}) {
            Edge.refusedWhenBusy("back(" + box + ")", z -> z.back(box), -1);
        }
        DyeLamps busy = Edge.busy();
        String asked = busy.mixes() + " " + busy.about(6) + " " + busy.parts(0) + " " + busy.weight(1) + " " + busy.about(8);
        busy.back(0);
        String after = busy.mixes() + " " + busy.about(6) + " " + busy.parts(0) + " " + busy.weight(1) + " " + busy.about(8);
        Edge.due("what is no vat stays: " + after, after.equals(asked), true);
    }

    public static void main(String[] args) throws Exception {
        atFirst();
        slipping();
        fading();
        setAndDrop();
        daysAndVat();
        seed();
        images();
        Edge.finish();
    }
}
