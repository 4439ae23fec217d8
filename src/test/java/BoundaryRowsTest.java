/** The edges of rows, starts and forged STAMPS, sentence by sentence: Terms III, promises 29 to 41. */
public final class BoundaryRowsTest {
    private static final Sentences S = new Sentences("BoundaryRowsTest");
    private static final String FREE = "official room 0 from 0 to 9 days 31;";
    private static final StampOrder NO_OFFICE = new StampOrder();

    public static void main(String[] args) {
        S.term("III");
        unlike();
        aside();
        nobodyWaits();
        leastHour();
        others();
        soonest();
        step();
        fewest();
        leastAndTread();
        cheapestAndWhom();
        ways();
        always();
        slack();
        start();
        forged();
        fake();
        S.close();
    }

    private static StampOrder at(int hour, String more) {
        return Check.told("office rooms 1 in 0 at " + hour + ";" + more);
    }

    private static StampOrder free(int officials, String more) {
        return at(0, FREE.repeat(officials) + more);
    }

    /** By no row: 0 and 1 NEED each other. */
    private static StampOrder noRow() {
        return free(3, "needs 0 1; needs 1 0; permit 0;");
    }

    private static void row(String of, StampOrder x, int... officials) {
        for (int i = 0; i < officials.length; i++) {
            S.due("step(" + i + ") " + of, x.step(i), officials[i]);
        }
        S.due("step(" + officials.length + ") " + of, x.step(officials.length), -1);
    }

    private static void treads(String of, StampOrder x, int... officials) {
        for (int i = 0; i < officials.length; i++) {
            S.due("tread(" + i + ") " + of, x.tread(i), officials[i]);
        }
        S.due("tread(" + officials.length + ") " + of, x.tread(officials.length), -1);
    }

    private static void unlike() {
        S.says("Rows of unlike OFFICIALS, gone to one by one from now on");
        // 1 NEEDS 0 on the first day, 2 stamps on the fourth, 0 has faded by then
        StampOrder x = at(0, "official room 0 from 0 to 0 days 31 fades 1; official room 0 from 1 to 1 days 1;"
                + "official room 0 from 0 to 0 days 8; needs 1 0; needs 2 1; leave 1 from 1 to 39; permit 0 2;");
        S.due("soonest(), by 0 twice alone", x.soonest(), -1);
        S.due("ways(), by 0 twice alone", x.ways(), 0);
        x.go(0);
        x.go(1);
        x.go(2);
        x.waits(1);
        S.due("soonest(), from now on", x.soonest(), 41);
        S.due("fewest(), from now on", x.fewest(), 1);
    }

    private static void aside() {
        S.says("(those whose STAMP is held now aside, whatever FADES later)");
        StampOrder x = at(0, "official room 0 from 0 to 9 days 31 fades 1; official room 0 from 5 to 5 days 2; permit 0 1;");
        S.due("soonest()", x.soonest(), 17);
        row("with nobody aside", x, 1, 0);
        x.go(0);
        S.due("soonest(), 0 being held", x.soonest(), -1);
        S.due("ways(), 0 being held", x.ways(), 0);
        x.waits(9);
        S.due("soonest(), 0 in its last HOUR", x.soonest(), -1);
        x.waits(1);
        S.due("soonest(), 0 having faded", x.soonest(), 16);
        row("0 having faded", x, 0, 1);
        x = free(2, "permit 0 1;");
        x.go(0);
        row("but for those aside", x, 1);
        S.due("always(1), but for those aside", x.always(1), 2);
    }

    private static void nobodyWaits() {
        S.says("till it is DONE; nobody waits else.");
        // 1 opens once, at 25: 0 would have faded, if nobody waits ahead of it
        StampOrder x = at(0, "official room 0 from 0 to 9 days 31 fades 1; official room 0 from 5 to 5 days 4;"
                + "leave 1 from 3 to 39; needs 1 0; permit 1;");
        S.due("soonest(), nobody waits", x.soonest(), -1);
        x.waits(14);
        S.due("soonest() at 14", x.soonest(), -1);
        x.waits(1);
        S.due("soonest() at 15", x.soonest(), 26);
        x = free(3, "permit 1;");
        row("till it is DONE", x, 1);
        S.due("always(0)", x.always(0), 2);
    }

    private static void leastHour() {
        S.says("SOONEST: the least HOUR now when DONE; of like ones the shorter row, then the least row.");
        // 0 at 9: by 1 it is no later, by 2 (which it NEEDS not) neither
        StampOrder x = at(0, FREE + FREE + "official room 0 from 9 to 9 days 31; permit 2;");
        S.due("soonest() of like ones", x.soonest(), 10);
        row("the shorter one", x, 2);
        x = at(0, FREE + FREE + "official room 0 from 9 to 9 days 31; permit 1 0 2;");
        row("the least one", x, 0, 1, 2);
        x = at(0, "official room 0 from 5 to 5 days 31;" + FREE + FREE + "permit 0 2;");
        S.due("soonest()", x.soonest(), 6);
        row("the least HOUR ahead of the least row", x, 2, 0);
        x = longer();
        S.due("soonest(), the longer", x.soonest(), 41);
        row("the least HOUR ahead of the shorter row", x, 2, 0, 1, 3);
        x = free(8, "permit 7 6 5 4 3 2 1 0;");
        S.due("soonest() of eight", x.soonest(), 8);
        row("of eight", x, 0, 1, 2, 3, 4, 5, 6, 7);
        x = at(0, "official room 0 from 9 to 9 days 31;" + FREE.repeat(7) + "permit 7 6 5 4 3 2 1 0;");
        S.due("soonest() of eight", x.soonest(), 10);
        row("of eight, the first last", x, 1, 2, 3, 4, 5, 6, 7, 0);
    }

    /** 2, 0, 1, 3 at 16, 17, 25, 40; the shorter 3, 0, 1 at 40, 41, 45: 0 FADES ahead of 1, gone to at once. */
    private static StampOrder longer() {
        return at(0, "official room 0 from 0 to 9 days 31 fades 1; official room 0 from 5 to 5 days 20;"
                + "official room 0 from 6 to 6 days 2; official room 0 from 0 to 0 days 16; needs 1 0; permit 1 3;");
    }

    private static void others() {
        S.says("The others: the fewest HOURS walked (or price), then likewise.");
        StampOrder x = longer();
        S.due("least() of like ones", x.least(), 0);
        treads("the shorter row, though later", x, 3, 0, 1);
        S.due("cheapest() of like ones", x.cheapest(), 0);
        S.due("whom(), the shorter row, though later", x.whom(), 11);
        x = at(0, "official room 0 from 5 to 5 days 31;" + FREE + "permit 0 1;");
        row("the sooner one", x, 1, 0);
        treads("the least row, though later", x, 0, 1);
        String free = "official room 0 from 0 to 9 days 31 price ";
        x = at(0, free + "0;" + free + "0;" + free + "3; permit 0 1;");
        treads("the least row", x, 0, 1);
        S.due("whom(), but for a dear one", x.whom(), 3);
        x = Check.told("office rooms 3 in 0 at 0; way 0 1 3; way 0 2 4; way 1 2 5;"
                + "official room 1 from 0 to 9 days 31; official room 2 from 0 to 9 days 31; permit 0 1;");
        S.due("least()", x.least(), 8);
        treads("the fewest HOURS", x, 0, 1);
        x = Check.told("office rooms 3 in 0 at 0; way 0 1 4; way 0 2 3; way 1 2 5;"
                + "official room 1 from 0 to 9 days 31; official room 2 from 0 to 9 days 31; permit 0 1;");
        S.due("least(), the other way", x.least(), 8);
        treads("the fewest HOURS ahead of the least row", x, 1, 0);
        // 0 stamps late but near, so the row that walks least is not the soonest
        x = Check.told("office rooms 2 in 0 at 0; way 0 1 1; official room 0 from 9 to 9 days 16;"
                + "official room 1 from 0 to 9 days 31; permit 0 1;");
        S.due("least(), later", x.least(), 1);
        treads("the fewest HOURS, later", x, 0, 1);
        S.due("soonest()", x.soonest(), 50);
        row("sooner by a walk back", x, 1, 0);
        // the longer 2, 0, 1, 3 walks nothing, the shorter one a way there and back
        x = Check.told("office rooms 2 in 0 at 0; way 0 1 1;"
                + "official room 0 from 0 to 9 days 31 fades 1; official room 0 from 5 to 5 days 20 price 4;"
                + "official room 0 from 6 to 6 days 2 price 3; official room 1 from 0 to 0 days 16 price 2; needs 1 0; permit 1 3;");
        S.due("least(), the longer row", x.least(), 1);
        treads("the fewest HOURS ahead of the shorter row", x, 2, 0, 1, 3);
        S.due("cheapest(), the shorter row", x.cheapest(), 6);
        S.due("whom(), the shorter row", x.whom(), 11);
        // 1 stamps at 25 alone, when 0 was gone to at 15 or later: behind the dear 2, or behind 3 and 4
        x = at(0, "official room 0 from 0 to 9 days 31 fades 1; official room 0 from 5 to 5 days 4;"
                + "official room 0 from 0 to 0 days 4 price 9;" + free + "1; official room 0 from 8 to 8 days 2 price 1;"
                + "leave 1 from 3 to 39; needs 1 0; needs 4 3; permit 1;");
        S.due("fewest(), the dear one", x.fewest(), 3);
        S.due("cheapest(), the longer row", x.cheapest(), 2);
        S.due("whom(), the longer row", x.whom(), 27);
        treads("of like ones the shorter row", x, 2, 0, 1);
    }

    private static void soonest() {
        S.promise(29);
        S.says("SOONEST (III): the HOUR in which it is DONE. NONE: by no row; -2 likewise.");
        StampOrder x = at(399, FREE + FREE + "permit 1;");
        S.due("soonest(), the last", x.soonest(), 400);
        x.wants(3);
        S.due("soonest(), two in the last HOUR", x.soonest(), -1);
        x.wants(0);
        S.due("soonest(), nobody", x.soonest(), 399);
        x.wants(1);
        x.go(0);
        S.due("soonest(), DONE at 400", x.soonest(), 400);
        x.wants(2);
        S.due("soonest() at 400", x.soonest(), -1);
        S.due("soonest() by a chain of eight", free(8, "needs 0 1; needs 1 2; needs 2 3; needs 3 4; needs 4 5; needs 5 6;"
                + "needs 6 7; permit 0;").soonest(), 8);
        S.due("soonest() by no row", noRow().soonest(), -1);
        S.due("soonest() without an OFFICE", NO_OFFICE.soonest(), -2);
    }

    private static void step() {
        S.promise(30);
        S.says("OFFICIAL i (from 0) of the first such row. NONE: there is none such; -2 likewise.");
        StampOrder x = free(8, "needs 0 7; permit 0;");
        S.due("step(0)", x.step(0), 7);
        S.due("step(1)", x.step(1), 0);
        S.due("step(2)", x.step(2), -1);
        S.due("step(-1)", x.step(-1), -1);
        S.due("step(8)", x.step(8), -1);
        S.due("step(MAX)", x.step(Integer.MAX_VALUE), -1);
        x = free(8, "permit 0 1 2 3 4 5 6 7;");
        S.due("step(7) of eight", x.step(7), 7);
        S.due("step(8) of eight", x.step(8), -1);
        x.wants(0);
        S.due("step(0) of the empty row", x.step(0), -1);
        x.wants(6);
        S.due("step(0)", x.step(0), 1);
        x.ask(1, 2, 0, 1);
        x.ask(2, 1, 0, 1);
        S.due("step(0), no row any more", x.step(0), -1);
        S.due("step(0) by no row", noRow().step(0), -1);
        S.due("step(0) without an OFFICE", NO_OFFICE.step(0), -2);
    }

    private static void fewest() {
        S.promise(31);
        S.says("The fewest OFFICIALS by which it is DONE. NONE: by no row; -2 likewise.");
        S.due("fewest(), not of the soonest row", longer().fewest(), 3);
        StampOrder x = free(2, "permit 0;");
        S.due("fewest()", x.fewest(), 1);
        x.go(0);
        S.due("fewest(), DONE", x.fewest(), 0);
        S.due("fewest() of eight", free(8, "permit 0 1 2 3 4 5 6 7;").fewest(), 8);
        S.due("fewest() by no row", noRow().fewest(), -1);
        S.due("fewest() without an OFFICE", NO_OFFICE.fewest(), -2);
    }

    private static void leastAndTread() {
        S.promise(32);
        S.says("The fewest HOURS that are walked. NONE, -2 likewise.");
        StampOrder x = Check.told("office rooms 3 in 0 at 0; way 0 1 9; way 1 2 9; official room 2 from 0 to 9 days 31;"
                + FREE + "permit 0;");
        S.due("least(), far", x.least(), 18);
        x.go(1);
        S.due("least(), from now on", x.least(), 18);
        x.go(0);
        S.due("least(), DONE", x.least(), 0);
        S.due("least(), of the same ROOM", free(2, "permit 0 1;").least(), 0);
        S.due("least() by no row", noRow().least(), -1);
        S.due("least() without an OFFICE", NO_OFFICE.least(), -2);
        S.promise(33);
        S.says("OFFICIAL i of the first such row. NONE, -2 likewise.");
        S.due("tread(0), DONE", x.tread(0), -1);
        x.anew();
        S.due("tread(0)", x.tread(0), 0);
        S.due("tread(1)", x.tread(1), -1);
        S.due("tread(-1)", x.tread(-1), -1);
        S.due("tread(8)", x.tread(8), -1);
        S.due("tread(MAX)", x.tread(Integer.MAX_VALUE), -1);
        x.wants(2);
        S.due("tread(0)", x.tread(0), 1);
        x.leave(1, 0, 39);
        S.due("tread(0), no row any more", x.tread(0), -1);
        S.due("tread(7) of eight", free(8, "permit 0 1 2 3 4 5 6 7;").tread(7), 7);
        S.due("tread(0) by no row", noRow().tread(0), -1);
        S.due("tread(0) without an OFFICE", NO_OFFICE.tread(0), -2);
    }

    private static void cheapestAndWhom() {
        S.promise(34);
        S.says("The least price. NONE, -2 likewise.");
        StampOrder x = at(0, "official room 0 from 0 to 9 days 31 price 99;".repeat(8) + "permit 0 1 2 3 4 5 6 7;");
        S.due("cheapest(), all", x.cheapest(), 792);
        x.go(7);
        S.due("cheapest(), from now on", x.cheapest(), 693);
        x.wants(128);
        S.due("cheapest(), DONE", x.cheapest(), 0);
        S.due("cheapest(), without a price", free(2, "permit 0 1;").cheapest(), 0);
        S.due("cheapest() by no row", noRow().cheapest(), -1);
        S.due("cheapest() without an OFFICE", NO_OFFICE.cheapest(), -2);
        S.promise(35);
        S.says("Whom, as bits: of the first such row. NONE, -2 likewise.");
        S.due("whom(), DONE", x.whom(), 0);
        x.wants(255);
        S.due("whom(), but for those aside", x.whom(), 127);
        x.anew();
        S.due("whom(), all", x.whom(), 255);
        S.due("whom() by no row", noRow().whom(), -1);
        S.due("whom() without an OFFICE", NO_OFFICE.whom(), -2);
    }

    private static void ways() {
        S.promise(36);
        S.says("How many rows there are by which it is DONE (none of whose beginnings does). -2: there is no OFFICE.");
        // 0; 1, 0; 2, 0; 1, 2, 0; 2, 1, 0
        S.due("ways()", free(3, "permit 0;").ways(), 5);
        S.due("ways() of all", free(3, "permit 0 1 2;").ways(), 6);
        S.due("ways() of the empty row", free(3, "").ways(), 1);
        S.due("ways() of no OFFICIALS", at(0, "").ways(), 1);
        S.due("ways() of eight", free(8, "permit 0 1 2 3 4 5 6 7;").ways(), 40320);
        // any order of some of seven, and 0: 1 + 7 + 42 + 210 + 840 + 2520 + 5040 + 5040
        S.due("ways() by eight", free(8, "permit 0;").ways(), 13700);
        S.due("ways() by no row", noRow().ways(), 0);
        StampOrder x = at(397, FREE.repeat(4) + "permit 0;");
        // 0; one of three, 0; two of three, 0: no fourth HOUR
        S.due("ways() in three HOURS", x.ways(), 1 + 3 + 6);
        S.due("ways() without an OFFICE", NO_OFFICE.ways(), -2);
    }

    private static void always() {
        S.promise(37);
        S.says("OFFICIALS that are in all of these rows (what 0), in some (1), as bits; 0 without any.");
        StampOrder x = free(4, "needs 1 0; bars 2 3; bars 3 2; needs 2 1; permit 1;");
        S.due("always(0)", x.always(0), 3);
        // 3, 0, 1 and 0, 3, 1, but 2 NEEDS 1
        S.due("always(1)", x.always(1), 11);
        S.due("always(0) of none", noRow().always(0), 0);
        S.due("always(1) of none", noRow().always(1), 0);
        StampOrder no = free(3, "needs 1 0; permit 1;");
        S.due("always(0), ahead of none", no.always(0), 3);
        S.due("always(1), ahead of none", no.always(1), 7);
        no.ask(0, 1, 0, 1);
        S.due("always(0), none any more", no.always(0), 0);
        S.due("always(1), none any more", no.always(1), 0);
        S.due("always(0) of the empty row", free(3, "").always(0), 0);
        S.due("always(1) of the empty row", free(3, "").always(1), 0);
        S.due("always(0) of eight", free(8, "permit 0 1 2 3 4 5 6 7;").always(0), 255);
        S.due("always(1) of eight", free(8, "permit 7;").always(1), 255);
        S.says("-2: there is no such what, no OFFICE.");
        S.due("always(2)", x.always(2), -2);
        S.due("always(-1)", x.always(-1), -2);
        S.due("always(0) without an OFFICE", NO_OFFICE.always(0), -2);
        S.due("always(1) without an OFFICE", NO_OFFICE.always(1), -2);
    }

    private static void slack() {
        S.promise(38);
        S.says("how many HOURS longer a STAMP of the first SOONEST row would be held, once it is DONE.");
        String fading = "official room 0 from 0 to 0 days 1 fades 1;";
        StampOrder x = at(0, fading + "official room 0 from 8 to 8 days 31 fades 20; permit 0 1;");
        // 0 at 0, held till 10; DONE at 9
        S.due("slack(0)", x.slack(0), 1);
        S.due("slack(1)", x.slack(1), 208 - 9);
        S.due("slack(7)", at(0, FREE.repeat(7) + "official room 0 from 0 to 9 days 31 fades 1; permit 7;").slack(7), 9);
        x = at(0, fading + "official room 0 from 9 to 9 days 31; permit 0 1;");
        S.due("slack(0), in its last HOUR", x.slack(0), 0);
        S.says("NONE: it is none of that row, never FADES, is not held then, there is no such row; -2: there is no such"
                + " OFFICIAL.");
        S.due("slack(1), never FADES", x.slack(1), -1);
        x = at(0, fading + "official room 0 from 0 to 0 days 2; official room 0 from 0 to 9 days 31 fades 9;"
                + "needs 1 0; permit 1;");
        // 1 at 10, in the last HOUR of 0: DONE at 11
        S.due("soonest()", x.soonest(), 11);
        S.due("slack(0), not held then", x.slack(0), -1);
        S.due("slack(2), none of that row", x.slack(2), -1);
        S.due("slack(0), not held long ago", at(0, fading + "official room 0 from 0 to 0 days 2;"
                + "official room 0 from 5 to 5 days 4; needs 1 0; permit 1 2;").slack(0), -1);
        S.due("slack(3)", x.slack(3), -2);
        S.due("slack(-1)", x.slack(-1), -2);
        x = at(0, "official room 0 from 0 to 9 days 31 fades 1;" + FREE + "permit 0 1;");
        x.go(0);
        S.due("slack(0), held already", x.slack(0), -1);
        x = at(0, "official room 0 from 0 to 9 days 31 fades 1;" + FREE + FREE + "needs 1 2; needs 2 1; permit 0 1;");
        S.due("slack(0), no such row", x.slack(0), -1);
        x.wants(1);
        S.due("slack(0), a row", x.slack(0), 9);
        x.wants(2);
        S.due("slack(0), no row any more", x.slack(0), -1);
        x.wants(0);
        S.due("slack(0), the empty row", x.slack(0), -1);
        S.due("slack(0) without an OFFICE", NO_OFFICE.slack(0), -2);
    }

    private static void start() {
        S.promise(39);
        S.says("the HOUR of a WEEK (0 .. 49) from which, beginning anew, the SOONEST row takes fewest HOURS (till DONE),"
                + " the first of several (what 0), how many (1).");
        StampOrder x = at(7, FREE + "permit 0;");
        S.due("start(0), the first HOUR of several", x.start(0), 0);
        S.due("start(1), the first HOUR of several", x.start(1), 1);
        x = at(7, "official room 0 from 9 to 9 days 16; permit 0;");
        S.due("start(0), the last HOUR", x.start(0), 49);
        S.due("start(1), the last HOUR", x.start(1), 1);
        // from 50 on it would take one HOUR
        x = at(7, "official room 0 from 0 to 0 days 1; leave 0 from 0 to 4; permit 0;");
        S.due("start(0), of a WEEK", x.start(0), 49);
        S.due("start(1), of a WEEK", x.start(1), 2);
        x.waits(3);
        x.go(0);
        S.due("start(0), beginning anew", x.start(0), 49);
        S.due("start(1), beginning anew", x.start(1), 2);
        x = Check.told("office rooms 2 in 1 at 7; way 0 1 3; official room 0 from 5 to 5 days 30;" + FREE + "permit 0;");
        S.due("start(0), with a walk", x.start(0), 12);
        S.due("start(1), with a walk", x.start(1), 4);
        x.go(1);
        S.due("start(0), from its first ROOM", x.start(0), 12);
        x = at(7, FREE + FREE + "permit 0 1;");
        S.due("start(1), till DONE", x.start(1), 2);
        x.wants(0);
        S.due("start(0) of nobody", x.start(0), 0);
        S.due("start(1) of nobody", x.start(1), 0);
        S.says("NONE: from none; -2: there is no such what, no OFFICE.");
        S.due("start(0) from none", noRow().start(0), -1);
        S.due("start(1) from none", noRow().start(1), -1);
        S.due("start(2)", x.start(2), -2);
        S.due("start(-1)", x.start(-1), -2);
        S.due("start(0) without an OFFICE", NO_OFFICE.start(0), -2);
        S.due("start(1) without an OFFICE", NO_OFFICE.start(1), -2);
    }

    private static void forged() {
        S.promise(40);
        S.says("by how many HOURS sooner it is DONE from now on, if a STAMP were held from now on and never FADED.");
        // 1 at 10 NEEDS 0 of 0; 2 at 15 NEEDS both
        StampOrder x = at(0, "official room 0 from 0 to 0 days 31 fades 1; official room 0 from 0 to 9 days 2 fades 1;"
                + "official room 0 from 5 to 5 days 31;" + FREE + "needs 1 0; needs 2 1; permit 2;");
        S.due("soonest()", x.soonest(), 16);
        S.due("forged(0), no sooner", x.forged(0), 0);
        S.due("forged(1)", x.forged(1), 10);
        S.due("forged(2)", x.forged(2), 16);
        S.due("forged(3), no matter", x.forged(3), 0);
        // 1 at 12 NEEDS 0, which was held till 10
        x = at(0, "official room 0 from 0 to 0 days 1 fades 1; official room 0 from 2 to 2 days 2;"
                + FREE + "needs 1 0; permit 1;");
        S.due("forged(0), not DONE without", x.forged(0), -1000);
        S.due("soonest()", x.soonest(), -1);
        x = at(0, "official room 0 from 0 to 9 days 31 fades 2; official room 0 from 0 to 0 days 31; bars 1 0; permit 1;");
        S.due("soonest()", x.soonest(), 1);
        x.go(0);
        S.due("soonest(), barred till it fades", x.soonest(), 31);
        S.says("-1,000: it is not DONE the one way or the other; -2,000: there is no such OFFICIAL.");
        S.due("forged(0), which never FADES then", x.forged(0), -1000);
        S.due("forged(1)", x.forged(1), 30);
        x = at(0, FREE + FREE + "needs 0 1; needs 1 0; permit 0;");
        S.due("forged(1), DONE with it alone", x.forged(1), -1000);
        S.due("forged(0), DONE with it alone", x.forged(0), -1000);
        S.due("forged(2)", x.forged(2), -2000);
        S.due("forged(-1)", x.forged(-1), -2000);
        S.due("forged(0) without an OFFICE", NO_OFFICE.forged(0), -2000);
        x = free(2, "permit 0;");
        x.go(0);
        S.due("forged(0), DONE", x.forged(0), 0);
        x = free(4, "bars 1 3; needs 0 1; permit 0;");
        S.due("forged(3), BARRED by who is NEEDED", x.forged(3), -1000);
        S.due("forged(2) of longer(), aside then", longer().forged(2), 41 - 46);
    }

    private static void fake() {
        S.promise(41);
        S.says("The OFFICIAL by whose that is most, if above 0, the first of several. NONE: none; -2: there is no OFFICE.");
        S.due("fake(), the first of several", free(3, "permit 1 2;").fake(), 1);
        StampOrder x = at(0, FREE + "official room 0 from 9 to 9 days 31;" + FREE + "permit 0 1 2;");
        S.due("fake(), the most", x.fake(), 1);
        x.wants(0);
        S.due("fake(), none above 0", x.fake(), -1);
        x.wants(1);
        S.due("fake()", x.fake(), 0);
        x.go(0);
        S.due("fake(), DONE", x.fake(), -1);
        S.due("fake(), DONE with it alone", noRow().fake(), -1);
        S.due("fake() of no OFFICIALS", at(0, "").fake(), -1);
        S.due("fake(), the last", free(8, "permit 7;").fake(), 7);
        S.due("fake() without an OFFICE", NO_OFFICE.fake(), -2);
    }
}
