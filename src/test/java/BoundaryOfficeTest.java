/** The edges of HOURS, WALKS and going, sentence by sentence: Terms II, promises 6 to 28. */
public final class BoundaryOfficeTest {
    private static final Sentences S = new Sentences("BoundaryOfficeTest");
    private static final String FREE = "official room 0 from 0 to 9 days 31;";
    private static final StampOrder NO_OFFICE = new StampOrder();

    public static void main(String[] args) {
        S.term("II");
        hours();
        opening();
        walks();
        goneTo();
        held();
        done();
        official();
        asksAndAsked();
        openAndOpens();
        week();
        walk();
        whatIsNow();
        until();
        when();
        why();
        can();
        go();
        waits();
        undoAndAnew();
        led();
        shoesAndPaid();
        isDone();
        S.close();
    }

    /** One ROOM, from an HOUR on. */
    private static StampOrder at(int hour, String more) {
        return Check.told("office rooms 1 in 0 at " + hour + ";" + more);
    }

    private static StampOrder free(int officials, String more) {
        return at(0, FREE.repeat(officials) + more);
    }

    private static void hours() {
        S.says("HOURS 0 .. 399: ten a DAY (0 .. 39), five DAYS a WEEK.");
        StampOrder x = at(0, "official room 0 from 0 to 9 days 1;" + FREE + "leave 1 from 39 to 39;");
        int[] open = {0, 9, 50, 59, 350, 359};
        int[] shut = {10, 49, 60, 349, 360, 399};
        for (int hour : open) {
            S.due("open(0, " + hour + ")", x.open(0, hour), 1);
        }
        for (int hour : shut) {
            S.due("open(0, " + hour + ")", x.open(0, hour), 0);
        }
        S.due("the last but one DAY", x.open(1, 389), 1);
        S.due("the last DAY", x.open(1, 390), 0);
        S.due("the last HOUR", x.open(1, 399), 0);
        S.due("no HOUR any more", x.open(1, 400), -2);
        S.due("no HOUR yet", x.open(1, -1), -2);
    }

    private static void opening() {
        S.says("its DAY modulo 5 is one of its days, not on leave that DAY");
        StampOrder x = at(0, "official room 0 from 0 to 9 days 17;" + "leave 0 from 4 to 5;");
        int[] hours = {9, 10, 39, 40, 49, 50, 59, 89, 90, 99, 100, 109, 110, 399};
        int[] is = {1, 0, 0, 0, 0, 0, 0, 0, 1, 1, 1, 1, 0, 1};
        for (int i = 0; i < hours.length; i++) {
            S.due("open(0, " + hours[i] + ")", x.open(0, hours[i]), is[i]);
        }
        x = at(0, FREE + "leave 0 from 2 to 3;");
        S.due("ahead of it", x.open(0, 19), 1);
        S.due("its first HOUR", x.open(0, 20), 0);
        S.due("its last HOUR", x.open(0, 39), 0);
        S.due("behind it", x.open(0, 40), 1);
        S.due("a WEEK on", x.open(0, 70), 1);
        S.says("the HOUR modulo 10 is from .. to, and no lunch");
        x = at(0, "official room 0 from 2 to 6 days 31 lunch 4;" + "official room 0 from 2 to 6 days 31 lunch 2;"
                + "official room 0 from 2 to 6 days 31 lunch 6;" + "official room 0 from 2 to 6 days 31 lunch 7;");
        String[] due = {"0011011000", "0001111000", "0011110000", "0011111000"};
        for (int i = 0; i < 4; i++) {
            for (int hour = 0; hour < 10; hour++) {
                S.due("open(" + i + ", " + hour + ")", x.open(i, hour), due[i].charAt(hour) - '0');
                S.due("open(" + i + ", 39" + hour + ")", x.open(i, 390 + hour), due[i].charAt(hour) - '0');
            }
        }
    }

    private static void walks() {
        S.says("WALK: the fewest HOURS by ways.");
        StampOrder x = Check.told("office rooms 6 in 0 at 0; way 0 5 9; way 0 4 1; way 4 3 1; way 3 2 1; way 2 1 1; way 1 5 1;");
        S.due("by all ROOMS", x.walk(0, 5), 5);
        S.due("back", x.walk(5, 0), 5);
        x = Check.told("office rooms 3 in 1 at 0; way 0 1 2; way 0 2 3;");
        S.due("by the first ROOM", x.walk(1, 2), 5);
        x = Check.told("office rooms 6 in 0 at 0; way 0 5 5; way 0 4 1; way 4 3 1; way 3 2 1; way 2 1 1; way 1 5 2;");
        S.due("straight", x.walk(0, 5), 5);
        x = Check.told("office rooms 6 in 0 at 0; way 0 1 9; way 1 2 9; way 2 3 9; way 3 4 9; way 4 5 9;");
        S.due("the longest that there is", x.walk(0, 5), 45);
        S.due("half of it", x.walk(5, 2), 27);
    }

    private static void goneTo() {
        S.says("waits there till the first HOUR in which it is OPEN");
        String far = "office rooms 2 in 0 at 0; way 0 1 3; official room 1 from ";
        S.due("OPEN till one is nearly there", Check.told(far + "2 to 2 days 31;").when(0), 12);
        S.due("OPEN when one is there", Check.told(far + "3 to 3 days 31;").when(0), 3);
        S.due("OPEN later", Check.told(far + "4 to 4 days 31;").when(0), 4);
        S.due("lunch when one is there", Check.told(far + "3 to 4 days 31 lunch 3;").when(0), 4);
        S.due("on leave when one is there", Check.told(far + "3 to 3 days 31; leave 0 from 0 to 1;").when(0), 23);
        S.says("all that it NEEDS are held");
        StampOrder x = free(3, "needs 2 0; needs 2 1;");
        S.due("none of two", x.when(2), -1);
        x.go(0);
        S.due("one of two", x.when(2), -1);
        x.go(1);
        S.due("both", x.when(2), 2);
        S.says("none that it BARS is");
        x = at(0, "official room 0 from 0 to 9 days 31 fades 1;" + "official room 0 from 0 to 9 days 31 fades 2;" + FREE
                + "bars 2 0; bars 2 1;");
        S.due("neither", x.when(2), 0);
        x.go(0);
        S.due("one of two", x.when(2), 11);
        x.go(1);
        S.due("both", x.when(2), 22);
        S.says("then it stamps, which takes that HOUR: one is there in the next HOUR");
        x = Check.told("office rooms 2 in 0 at 5; way 0 1 2; official room 1 from 8 to 8 days 31;");
        S.due("go(0)", x.go(0), 8);
        S.due("now()", x.now(), 9);
        S.due("room()", x.room(), 1);
        S.says("(400, if that was the last: nobody stamps any more)");
        x = at(399, FREE + FREE);
        S.due("go(0)", x.go(0), 399);
        S.due("now()", x.now(), 400);
        S.due("when(1)", x.when(1), -1);
        S.due("why(1)", x.why(1), 3);
        S.due("can()", x.can(), 0);
        S.due("go(1)", x.go(1), -5);
        S.says("Who holds its STAMP when set out does not go.");
        // 0 would have faded when one is back in its ROOM
        x = Check.told("office rooms 2 in 0 at 0; way 0 1 5; official room 0 from 0 to 9 days 31 fades 1;"
                + "official room 1 from 0 to 9 days 31;");
        x.go(0);
        x.go(1);
        S.due("now()", x.now(), 7);
        S.due("why(0)", x.why(0), 1);
        S.due("when(0)", x.when(0), -1);
        S.due("go(0)", x.go(0), -5);
        x.waits(3);
        S.due("in its last HOUR", x.go(0), -5);
        x.waits(1);
        S.due("faded", x.go(0), 16);
    }

    private static void held() {
        S.says("A STAMP of HOUR t is held in HOURS t + 1 .. t + 10 fades");
        StampOrder x = at(0, "official room 0 from 0 to 9 days 31 fades 2;"
                + "official room 0 from 0 to 0 days 4;" + "official room 0 from 1 to 1 days 4;" + FREE
                + "needs 1 0; needs 2 0; bars 3 0;");
        S.due("held() ahead of it", x.held(), 0);
        S.due("go(0)", x.go(0), 0);
        S.due("held() at 1", x.held(), 1);
        S.due("NEEDED in the last HOUR", x.when(1), 20);
        S.due("NEEDED in the HOUR behind it", x.when(2), -1);
        S.due("BARRED till the last HOUR", x.when(3), 21);
        x.waits(19);
        S.due("held() at 20", x.held(), 1);
        x.waits(1);
        S.due("held() at 21", x.held(), 0);
        S.says("(for ever, if it does not FADE)");
        x = free(2, "bars 1 0;");
        x.go(0);
        for (int i = 0; i < 4; i++) {
            x.waits(99);
        }
        x.waits(3);
        S.due("now()", x.now(), 400);
        S.due("held()", x.held(), 1);
        x.undo();
        S.due("why(1)", x.why(1), 5);
        S.due("until(0)", x.until(0), -1);
    }

    private static void done() {
        S.says("DONE: all STAMPS of the PERMIT are held in the HOUR now (none in it: at once).");
        StampOrder x = at(0, "official room 0 from 0 to 9 days 31 fades 1;" + FREE + FREE + "permit 0 1;");
        S.due("done() without", x.done(), 0);
        x.go(0);
        S.due("done() with one", x.done(), 0);
        x.go(2);
        S.due("done() with another", x.done(), 0);
        x.go(1);
        S.due("done() with both", x.done(), 1);
        x.waits(7);
        S.due("done() at 10", x.done(), 1);
        x.waits(1);
        S.due("done() at 11", x.done(), 0);
        x = at(399, FREE + "permit 0;");
        x.go(0);
        S.due("done() at 400", x.done(), 1);
        x = free(1, "");
        S.due("done() of none", x.done(), 1);
        S.due("soonest() of none", x.soonest(), 0);
        x.waits(99);
        S.due("soonest() of none, later", x.soonest(), 99);
    }

    private static void official() {
        S.promise(6);
        S.says("what 0: ROOM, 1: opens, 2: shuts, 3: days, 4: lunch (NONE), 5: fades (NONE), 6: price, 7, 8: leave from, to"
                + " (NONE).");
        StampOrder x = Check.told("office rooms 6 in 0 at 0; official room 5 from 2 to 9 days 31 price 99 fades 20 lunch 9;"
                + "official room 0 from 0 to 0 days 1; official room 1 from 0 to 1 days 2 lunch 0 price 0 fades 1;"
                + "leave 0 from 38 to 39; leave 2 from 0 to 0;");
        int[][] due = {{5, 2, 9, 31, 9, 20, 99, 38, 39}, {0, 0, 0, 1, -1, -1, 0, -1, -1}, {1, 0, 1, 2, 0, 1, 0, 0, 0}};
        for (int i = 0; i < 3; i++) {
            for (int what = 0; what < 9; what++) {
                S.due("official(" + i + ", " + what + ")", x.official(i, what), due[i][what]);
            }
        }
        S.says("-2: there are none such.");
        S.due("official(3, 0)", x.official(3, 0), -2);
        S.due("official(-1, 0)", x.official(-1, 0), -2);
        S.due("official(0, 9)", x.official(0, 9), -2);
        S.due("official(0, -1)", x.official(0, -1), -2);
        S.due("official(8, 0) of eight", free(8, "").official(8, 0), -2);
        S.due("official(0, 0) of none", at(0, "").official(0, 0), -2);
        S.due("official(0, 0) without an OFFICE", NO_OFFICE.official(0, 0), -2);
    }

    private static void asksAndAsked() {
        StampOrder x = free(8, "needs 7 0; needs 7 6; needs 0 7; bars 7 0; bars 1 0;");
        S.promise(7);
        S.says("What an OFFICIAL NEEDS (what 0), BARS (1), as bits.");
        S.due("asks(7, 0)", x.asks(7, 0), 65);
        S.due("asks(0, 0)", x.asks(0, 0), 128);
        S.due("asks(7, 1)", x.asks(7, 1), 1);
        S.due("asks(0, 1)", x.asks(0, 1), 0);
        S.says("-2: there are none such.");
        S.due("asks(8, 0)", x.asks(8, 0), -2);
        S.due("asks(-1, 0)", x.asks(-1, 0), -2);
        S.due("asks(0, 2)", x.asks(0, 2), -2);
        S.due("asks(0, -1)", x.asks(0, -1), -2);
        S.due("asks(0, 0) without an OFFICE", NO_OFFICE.asks(0, 0), -2);
        S.promise(8);
        S.says("Who NEEDS an OFFICIAL (what 0), BARS it (1), as bits.");
        S.due("asked(0, 0)", x.asked(0, 0), 128);
        S.due("asked(7, 0)", x.asked(7, 0), 1);
        S.due("asked(0, 1)", x.asked(0, 1), 130);
        S.due("asked(7, 1)", x.asked(7, 1), 0);
        S.says("-2 likewise.");
        S.due("asked(8, 0)", x.asked(8, 0), -2);
        S.due("asked(-1, 0)", x.asked(-1, 0), -2);
        S.due("asked(0, 2)", x.asked(0, 2), -2);
        S.due("asked(0, -1)", x.asked(0, -1), -2);
        S.due("asked(0, 0) without an OFFICE", NO_OFFICE.asked(0, 0), -2);
    }

    private static void openAndOpens() {
        StampOrder x = at(0, "official room 0 from 3 to 4 days 1;" + "official room 0 from 9 to 9 days 31 lunch 9;"
                + "official room 0 from 9 to 9 days 16;" + FREE + "leave 3 from 0 to 39;");
        S.promise(9);
        S.says("Whether an OFFICIAL is OPEN in an HOUR: 1, 0. -2: there are none such.");
        S.due("open(0, 2)", x.open(0, 2), 0);
        S.due("open(0, 3)", x.open(0, 3), 1);
        S.due("open(2, 399)", x.open(2, 399), 1);
        S.due("open(2, 0)", x.open(2, 0), 0);
        S.due("open(2, 400)", x.open(2, 400), -2);
        S.due("open(2, -1)", x.open(2, -1), -2);
        S.due("open(4, 0)", x.open(4, 0), -2);
        S.due("open(-1, 0)", x.open(-1, 0), -2);
        S.due("open(0, 0) without an OFFICE", NO_OFFICE.open(0, 0), -2);
        S.promise(10);
        S.says("The first HOUR from one on in which it is OPEN.");
        S.due("opens(0, 2)", x.opens(0, 2), 3);
        S.due("opens(0, 3)", x.opens(0, 3), 3);
        S.due("opens(0, 4)", x.opens(0, 4), 4);
        S.due("opens(0, 5)", x.opens(0, 5), 53);
        S.due("opens(2, 350)", x.opens(2, 350), 399);
        S.due("opens(2, 399)", x.opens(2, 399), 399);
        S.says("NONE: in none; -2 likewise.");
        S.due("opens(0, 354)", x.opens(0, 354), 354);
        S.due("opens(0, 355)", x.opens(0, 355), -1);
        S.due("opens(1, 0), lunch alone", x.opens(1, 0), -1);
        S.due("opens(3, 0), always on leave", x.opens(3, 0), -1);
        S.due("opens(2, 400)", x.opens(2, 400), -2);
        S.due("opens(2, -1)", x.opens(2, -1), -2);
        S.due("opens(4, 0)", x.opens(4, 0), -2);
        S.due("opens(-1, 0)", x.opens(-1, 0), -2);
        S.due("opens(0, 0) without an OFFICE", NO_OFFICE.opens(0, 0), -2);
    }

    private static void week() {
        S.promise(11);
        S.says("HOURS of a WEEK (0 .. 49) in which it is OPEN, leave aside.");
        StampOrder x = at(0, FREE + "official room 0 from 9 to 9 days 16;" + "official room 0 from 0 to 0 days 1;"
                + "official room 0 from 4 to 4 days 31 lunch 4;" + "official room 0 from 0 to 9 days 31 lunch 0;"
                + "leave 0 from 0 to 39; leave 1 from 4 to 4;");
        S.due("week(0), all", x.week(0), 50);
        S.due("week(1), the last", x.week(1), 1);
        S.due("week(2), the first", x.week(2), 1);
        S.due("week(3), none", x.week(3), 0);
        S.due("week(4), but for lunch", x.week(4), 45);
        S.says("-2: there is none such.");
        S.due("week(5)", x.week(5), -2);
        S.due("week(-1)", x.week(-1), -2);
        S.due("week(0) without an OFFICE", NO_OFFICE.week(0), -2);
    }

    private static void walk() {
        S.promise(12);
        S.says("WALK of two ROOMS (0: itself).");
        StampOrder x = Check.told("office rooms 3 in 0 at 0; way 0 1 9;");
        S.due("walk(0, 1)", x.walk(0, 1), 9);
        S.due("walk(0, 0)", x.walk(0, 0), 0);
        S.due("walk(2, 2), no way to it", x.walk(2, 2), 0);
        S.says("NONE: there is no way; -2: there are none such.");
        S.due("walk(0, 2)", x.walk(0, 2), -1);
        S.due("walk(2, 1)", x.walk(2, 1), -1);
        S.due("walk(3, 0)", x.walk(3, 0), -2);
        S.due("walk(0, 3)", x.walk(0, 3), -2);
        S.due("walk(3, 3)", x.walk(3, 3), -2);
        S.due("walk(-1, 0)", x.walk(-1, 0), -2);
        S.due("walk(0, -1)", x.walk(0, -1), -2);
        S.due("walk(0, 0) without an OFFICE", NO_OFFICE.walk(0, 0), -2);
    }

    private static void whatIsNow() {
        S.promise(13);
        S.says("PERMIT, as bits. -2: there is no OFFICE.");
        S.due("permit(), all", free(8, "permit 7 6 5 4 3 2 1 0;").permit(), 255);
        S.due("permit(), nobody", free(8, "").permit(), 0);
        S.due("permit() of no OFFICIALS", at(0, "").permit(), 0);
        S.due("permit() without an OFFICE", NO_OFFICE.permit(), -2);
        S.promise(14);
        S.says("The HOUR now. -2 likewise.");
        StampOrder x = at(399, FREE.repeat(8));
        S.due("now(), the last", x.now(), 399);
        x.go(7);
        S.due("now(), behind the last", x.now(), 400);
        S.due("now(), the first", at(0, "").now(), 0);
        S.due("now() without an OFFICE", NO_OFFICE.now(), -2);
        S.promise(15);
        S.says("The ROOM now. -2 likewise.");
        S.due("room(), the last", Check.told("office rooms 6 in 5 at 0;").room(), 5);
        S.due("room(), the first", at(0, "").room(), 0);
        S.due("room() without an OFFICE", NO_OFFICE.room(), -2);
        S.promise(16);
        S.says("STAMPS that are held now, as bits. -2 likewise.");
        S.due("held(), the 8th", x.held(), 128);
        S.due("held(), none", at(0, "").held(), 0);
        S.due("held() without an OFFICE", NO_OFFICE.held(), -2);
    }

    private static void until() {
        S.promise(17);
        S.says("The last HOUR in which a STAMP that is held now is.");
        StampOrder x = at(370, "official room 0 from 0 to 9 days 31 fades 1;" + FREE
                + "official room 0 from 0 to 9 days 31 fades 2;");
        x.go(0);
        x.go(1);
        S.due("until(0)", x.until(0), 380);
        x.waits(8);
        S.due("until(0) at 380", x.until(0), 380);
        S.says("NONE: it is not held, it never FADES; -2: there is no such OFFICIAL.");
        S.due("until(2), never stamped", x.until(2), -1);
        S.due("until(1), never FADES", x.until(1), -1);
        x.waits(1);
        S.due("until(0) at 381", x.until(0), -1);
        S.due("go(2)", x.go(2), 381);
        S.due("until(2)", x.until(2), 401);
        StampOrder eight = at(0, FREE.repeat(7) + "official room 0 from 0 to 9 days 31 fades 3;");
        eight.go(7);
        S.due("until(7)", eight.until(7), 30);
        S.due("until(3)", x.until(3), -2);
        S.due("until(-1)", x.until(-1), -2);
        S.due("until(0) without an OFFICE", NO_OFFICE.until(0), -2);
    }

    private static void when() {
        S.promise(18);
        S.says("The HOUR in which an OFFICIAL would stamp, gone to now (II). NONE: never; -2: there is none such.");
        StampOrder x = Check.told("office rooms 3 in 0 at 391; way 0 1 8; way 0 2 9; official room 1 from 0 to 9 days 31;"
                + "official room 2 from 0 to 9 days 31;" + FREE);
        S.due("when(0), the last HOUR", x.when(0), 399);
        S.due("when(1), one too late", x.when(1), -1);
        S.due("when(2), now", x.when(2), 391);
        x.go(2);
        S.due("when(2), held", x.when(2), -1);
        StampOrder eight = free(8, "bars 0 7; needs 1 7;");
        S.due("when(0), the 8th not held", eight.when(0), 0);
        S.due("when(1), the 8th not held", eight.when(1), -1);
        eight.go(7);
        S.due("when(7), held", eight.when(7), -1);
        S.due("when(0), the 8th held", eight.when(0), -1);
        S.due("when(1), the 8th held", eight.when(1), 1);
        StampOrder no = Check.told("office rooms 2 in 0 at 0;" + FREE + "official room 1 from 0 to 9 days 31;"
                + "official room 0 from 0 to 9 days 31 fades 1; bars 1 0; bars 1 2;");
        S.due("when(1), no way", no.when(1), -1);
        S.due("can(), no way", no.can(), 5);
        no.go(2);
        S.due("when(1), no way, and BARS one", no.when(1), -1);
        S.due("when(3)", x.when(3), -2);
        S.due("when(-1)", x.when(-1), -2);
        S.due("when(0) without an OFFICE", NO_OFFICE.when(0), -2);
    }

    private static void why() {
        S.promise(19);
        S.says("0 it would, 1 its STAMP is held, 2 there is no way, 3 it is OPEN in no HOUR any more once one is there,"
                + " 4 in none of these HOURS all that it NEEDS are held, 5 in those it BARS one that is; the first that is so.");
        StampOrder x = Check.told("office rooms 2 in 0 at 380;" + "official room 0 from 0 to 9 days 31 fades 1;" + FREE
                + "official room 1 from 0 to 9 days 31;"
                + "official room 0 from 0 to 0 days 31 lunch 0;"
                + "official room 0 from 0 to 0 days 16;" + "official room 0 from 1 to 1 days 16;"
                + FREE + FREE
                + "needs 2 3; bars 2 1; needs 3 2; bars 3 1; needs 4 0; needs 5 0; needs 6 2; bars 6 1; bars 7 1;");
        S.due("why(0)", x.why(0), 0);
        S.due("why(4) ahead of 0", x.why(4), 4);
        S.due("why(7)", x.why(7), 0);
        x.go(0);
        S.due("why(0), held", x.why(0), 1);
        S.due("why(4), NEEDED in its last HOUR", x.why(4), 0);
        S.due("why(5), one later", x.why(5), 4);
        x.go(1);
        S.due("why(1), held", x.why(1), 1);
        S.due("why(2), no way and not had and barred", x.why(2), 2);
        S.due("why(3), never OPEN and not had and barred", x.why(3), 3);
        S.due("why(6), not had and barred", x.why(6), 4);
        S.due("why(7), barred", x.why(7), 5);
        x.waits(18);
        S.due("now()", x.now(), 400);
        S.due("why(1) at 400, held", x.why(1), 1);
        S.due("why(0) at 400", x.why(0), 3);
        S.due("why(2) at 400, no way", x.why(2), 2);
        x = at(380, "official room 0 from 0 to 9 days 31 fades 1;" + "official room 0 from 0 to 0 days 16;"
                + "official room 0 from 1 to 1 days 16;" + "bars 1 0; bars 2 0;");
        x.go(0);
        S.due("why(1), BARRED in its last HOUR", x.why(1), 5);
        S.due("why(2), BARRED no more", x.why(2), 0);
        x = Check.told("office rooms 2 in 0 at 390; way 0 1 9; official room 1 from 0 to 9 days 31;");
        S.due("why(0), there at 399", x.why(0), 0);
        x.waits(1);
        S.due("why(0), there at 400", x.why(0), 3);
        x = Check.told("office rooms 2 in 0 at 0; way 0 1 3; official room 1 from 2 to 2 days 1;"
                + "official room 1 from 3 to 3 days 1; leave 0 from 1 to 39; leave 1 from 1 to 39;");
        S.due("why(0), OPEN till one is nearly there", x.why(0), 3);
        S.due("why(1), OPEN when one is there", x.why(1), 0);
        // 0 is held till 10: at 4 both NEEDS and BARS, at 54 neither
        x = at(0, "official room 0 from 0 to 0 days 31 fades 1;" + "official room 0 from 4 to 4 days 1;"
                + "needs 1 0; bars 1 0;");
        S.due("why(1), not had", x.why(1), 4);
        x.go(0);
        S.due("why(1), had and barred", x.why(1), 5);
        S.says("-2 likewise.");
        S.due("why(2)", x.why(2), -2);
        S.due("why(-1)", x.why(-1), -2);
        S.due("why(0) without an OFFICE", NO_OFFICE.why(0), -2);
    }

    private static void can() {
        S.promise(20);
        S.says("OFFICIALS that would stamp, gone to now, as bits. -2: there is no OFFICE.");
        StampOrder x = free(8, "needs 3 2;");
        S.due("can()", x.can(), 247);
        x.go(2);
        S.due("can(), one held", x.can(), 251);
        S.due("can() of none", at(0, "").can(), 0);
        S.due("can() without an OFFICE", NO_OFFICE.can(), -2);
    }

    private static void go() {
        S.promise(21);
        S.says("-5: it never does, there were 40; -2: there is none such.");
        StampOrder x = at(0, FREE + FREE + "needs 1 0;");
        S.due("go(1), never", x.go(1), -5);
        S.due("now(), nobody gone to", x.now(), 0);
        S.due("count(6)", x.count(6), 0);
        for (int i = 0; i < 39; i++) {
            x.waits(2);
        }
        S.due("go(0), the 40th", x.go(0), 78);
        S.due("go(1), the 41st", x.go(1), -5);
        S.due("now(), nobody gone to", x.now(), 79);
        S.due("held(), nobody gone to", x.held(), 1);
        S.due("when(1), still told", x.when(1), 79);
        S.due("can(), still told", x.can(), 2);
        S.due("go(2) behind 40", x.go(2), -2);
        S.due("go(-1)", x.go(-1), -2);
        S.due("go(0) without an OFFICE", NO_OFFICE.go(0), -2);
    }

    private static void waits() {
        S.promise(22);
        S.says("One waits n (1 .. 99) HOURS: the HOUR then.");
        StampOrder x = at(0, FREE);
        S.due("waits(1)", x.waits(1), 1);
        S.due("waits(99)", x.waits(99), 100);
        S.says("-5: it would be beyond 400, there were 40; -2: there is no such n, no OFFICE.");
        S.due("waits(0)", x.waits(0), -2);
        S.due("waits(100)", x.waits(100), -2);
        S.due("waits(-1)", x.waits(-1), -2);
        S.due("waits(MAX)", x.waits(Integer.MAX_VALUE), -2);
        S.due("now(), not waited", x.now(), 100);
        S.due("count(6), not waited", x.count(6), 2);
        x.waits(99);
        x.waits(99);
        x.waits(92);
        S.due("waits(11) at 390", x.waits(11), -5);
        S.due("now(), not waited", x.now(), 390);
        S.due("waits(10) at 390", x.waits(10), 400);
        S.due("waits(1) at 400", x.waits(1), -5);
        S.due("waits(100) at 400", x.waits(100), -2);
        x.anew();
        for (int i = 1; i <= 40; i++) {
            S.due("waits(1), the " + i + "th", x.waits(1), i);
        }
        S.due("waits(1), the 41st", x.waits(1), -5);
        S.due("now(), not waited", x.now(), 40);
        S.due("waits(0) behind 40", x.waits(0), -2);
        S.due("waits(1) without an OFFICE", NO_OFFICE.waits(1), -2);
    }

    private static void undoAndAnew() {
        S.promise(23);
        S.says("how many there are. -5: there is none; -2: there is no OFFICE.");
        StampOrder x = Check.told("office rooms 2 in 0 at 3; way 0 1 2; official room 1 from 0 to 9 days 31 price 5;" + FREE);
        S.due("undo() of none", x.undo(), -5);
        x.go(0);
        x.waits(9);
        x.go(1);
        S.due("undo() of three", x.undo(), 2);
        S.due("now()", x.now(), 15);
        S.due("room()", x.room(), 1);
        S.due("held()", x.held(), 1);
        S.due("undo() of two", x.undo(), 1);
        S.due("now()", x.now(), 6);
        S.due("undo() of one", x.undo(), 0);
        S.due("now()", x.now(), 3);
        S.due("room()", x.room(), 0);
        S.due("held()", x.held(), 0);
        S.due("paid()", x.paid(), 0);
        S.due("shoes()", x.shoes(), 0);
        S.due("undo() of none any more", x.undo(), -5);
        S.due("undo() without an OFFICE", NO_OFFICE.undo(), -2);
        S.promise(24);
        S.says("how many there were. -2 likewise.");
        S.due("anew() of none", x.anew(), 0);
        x.go(0);
        x.waits(9);
        S.due("anew() of two", x.anew(), 2);
        S.due("now()", x.now(), 3);
        S.due("room()", x.room(), 0);
        S.due("held()", x.held(), 0);
        S.due("paid()", x.paid(), 0);
        S.due("shoes()", x.shoes(), 0);
        S.due("anew() of none any more", x.anew(), 0);
        for (int i = 0; i < 40; i++) {
            x.waits(1);
        }
        S.due("anew() of 40", x.anew(), 40);
        S.due("waits(1), anew", x.waits(1), 4);
        S.due("anew() without an OFFICE", NO_OFFICE.anew(), -2);
    }

    private static void led() {
        S.promise(25);
        S.says("The i-th of them (from 0): the OFFICIAL; 10 and the HOURS waited. NONE: there is none such; -2 likewise.");
        StampOrder x = free(8, "");
        S.due("led(0) of none", x.led(0), -1);
        x.go(7);
        x.waits(1);
        x.go(0);
        x.waits(99);
        S.due("led(0)", x.led(0), 7);
        S.due("led(1)", x.led(1), 11);
        S.due("led(2)", x.led(2), 0);
        S.due("led(3)", x.led(3), 109);
        S.due("led(4)", x.led(4), -1);
        S.due("led(-1)", x.led(-1), -1);
        S.due("led(40)", x.led(40), -1);
        S.due("led(MAX)", x.led(Integer.MAX_VALUE), -1);
        x.undo();
        S.due("led(3), taken back", x.led(3), -1);
        x.anew();
        S.due("led(0), taken back", x.led(0), -1);
        for (int i = 0; i < 40; i++) {
            x.waits(1);
        }
        S.due("led(39)", x.led(39), 11);
        S.due("led(40) of 40", x.led(40), -1);
        S.due("led(0) without an OFFICE", NO_OFFICE.led(0), -2);
    }

    private static void shoesAndPaid() {
        StampOrder x = Check.told("office rooms 2 in 0 at 0; way 0 1 2; official room 1 from 0 to 9 days 31 price 99 fades 1;"
                + "official room 0 from 0 to 9 days 31 price 1;" + FREE);
        S.promise(26);
        S.says("HOURS that were walked by all of them. -2 likewise.");
        S.due("shoes() of none", x.shoes(), 0);
        x.waits(3);
        S.due("shoes(), waited", x.shoes(), 0);
        x.go(0);
        S.due("shoes(), there", x.shoes(), 2);
        x.go(1);
        S.due("shoes(), back", x.shoes(), 4);
        x.go(2);
        S.due("shoes(), of the same ROOM", x.shoes(), 4);
        S.due("shoes() without an OFFICE", NO_OFFICE.shoes(), -2);
        S.promise(27);
        S.says("Prices of all that stamped, together. -2 likewise.");
        S.due("paid()", x.paid(), 100);
        x.waits(7);
        S.due("go(0), faded", x.go(0), 19);
        S.due("paid(), twice", x.paid(), 199);
        x.undo();
        S.due("paid(), once", x.paid(), 100);
        x.anew();
        S.due("paid() of none", x.paid(), 0);
        S.due("paid() without an OFFICE", NO_OFFICE.paid(), -2);
    }

    private static void isDone() {
        S.promise(28);
        S.says("1, 0. -2 likewise.");
        StampOrder x = free(2, "permit 1;");
        S.due("done()", x.done(), 0);
        x.go(1);
        S.due("done(), held", x.done(), 1);
        x.undo();
        S.due("done(), taken back", x.done(), 0);
        S.due("done() of nobody", at(0, "").done(), 1);
        S.due("done() without an OFFICE", NO_OFFICE.done(), -2);
    }
}
