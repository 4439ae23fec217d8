/** Promises 1 to 69, one by one: answers worked out by hand from the document. */
public final class PromisesTest {
    private static final Check CHECK = new Check("PromisesTest");

    /** Three rows: 0, 1; 0, 2, 1; 2, 0, 1. */
    private static final String THREE = "office rooms 3 in 0 at 0;\n"
            + "official room 0 from 0 to 9 days 31;\n"
            + "official room 1 from 2 to 5 days 31 lunch 3 fades 1 price 7;\n"
            + "official room 2 from 0 to 9 days 5 price 20;\n"
            + "way 0 1 2; way 1 2 3;\n"
            + "needs 1 0; bars 2 1;\n"
            + "leave 0 from 1 to 1;\n"
            + "permit 0 1;";

    private static final String HEAD = "office rooms 2 in 0 at 0;";
    private static final String FIVE = "official room 0 from 5 to 5 days 1";
    private static final String FREE = "official room 0 from 0 to 9 days 31;";
    private static final String TWO = HEAD + FIVE + ";" + FIVE + ";";

    private static void due(String call, long got, long want) {
        CHECK.due(call, got, want);
    }

    private static StampOrder free(int officials, String more) {
        return Check.told("office rooms 1 in 0 at 0;" + FREE.repeat(officials) + more);
    }

    public static void main(String[] args) {
        newObject();
        feedAndEnd();
        office();
        faultsOfTheHead();
        faultsOfOfficials();
        faultsOfTheRest();
        official();
        asksAndAsked();
        openOpensWeek();
        walk();
        permit();
        goneToByHand();
        untilAndFading();
        why();
        goWaitsUndo();
        lastHour();
        rows();
        rowsAside();
        leastAndCheapest();
        slack();
        start();
        forged();
        sets();
        ringAndDepth();
        loose();
        parted();
        judgeAndBribed();
        run();
        queue();
        chair();
        blind();
        luckAndWorth();
        ask();
        leave();
        wants();
        count();
        images();
        rowAndWrite();
        paste();
        refusals();
        CHECK.close();
    }

    // 1
    private static void newObject() {
        StampOrder x = new StampOrder();
        due("1 NONE", StampOrder.NONE, -1);
        due("1 count(0)", x.count(0), 0);
        due("1 count(4)", x.count(4), 0);
        due("1 count(5)", x.count(5), 0);
        due("1 count(8)", x.count(8), 0);
        due("1 permit", x.permit(), -2);
        due("1 now", x.now(), -2);
        due("1 fault(0)", x.fault(0), 0);
        due("1 fault(1)", x.fault(1), -1);
        due("1 back", x.back(0), -6);
        due("1 write", x.write(0, 0, 0), -6);
    }

    // 2, 3
    private static void feedAndEnd() {
        StampOrder x = new StampOrder();
        due("2 first", x.feed(1, 2, 3, 4, 5), 20);
        for (int i = 2; i <= 80; i++) {
            due("2 feed " + i, x.feed(0, 0, 0, 0, 0), 20 * i);
        }
        due("2 full", x.feed(0, 0, 0, 0, 0), -1);
        due("2 stays", x.count(5), 1600);
        due("3 too many", x.end(1601), -1);
        due("3 below", x.end(-1), -1);
        due("3 stays", x.count(5), 1600);
        due("3 all", x.end(1600), 1600);
        due("3 cut", x.end(1581), 1581);
        due("2 one too many", x.feed(0, 0, 0, 0, 0), -1);
        due("3 cut again", x.end(1580), 1580);
        due("2 just full", x.feed(0, 0, 0, 0, 0), 1600);
        due("3 none", x.end(0), 0);
        due("3 count", x.count(5), 0);
        due("3 one", x.end(1), -1);
        // "office rooms 1 in 0 " and "at 7;": the highest byte first, behind the TAPE
        due("2 text", x.feed(0x6f666669, 0x63652072, 0x6f6f6d73, 0x20312069, 0x6e203020), 20);
        due("2 text on", x.feed(0x6174, 0x20373b20, 0, 0, 0), 40);
        due("3 without", x.end(28), 28);
        due("4 zeros are none", x.office(), -4);
        due("5 place", x.fault(1), 20);
        x.feed(0x6f666669, 0x63652072, 0x6f6f6d73, 0x20312069, 0x6e203020);
        x.feed(0x20206174, 0x2037203b, -1, -1, -1);
        due("3 cut to the text", x.end(28), 28);
        due("4 told", x.office(), 1);
        due("4 hour", x.now(), 7);
    }

    // 4
    private static void office() {
        StampOrder x = Check.told(THREE);
        due("4 lines", x.count(4), 10);
        due("4 tape", x.count(5), 0);
        x.go(0);
        Check.type(x, "office rooms 2 in 1 at 3; foo");
        due("4 fault", x.office(), -4);
        due("4 empty", x.count(5), 0);
        due("4 stays", x.count(0), 3);
        due("4 gone to stays", x.now(), 1);
        due("4 fault kept", x.fault(0), 1);
        Check.type(x, "office rooms 2 in 1 at 3;");
        due("4 another", x.office(), 1);
        due("4 nobody gone to", x.count(6), 0);
        due("4 its hour", x.now(), 3);
        due("4 its room", x.room(), 1);
        due("4 no officials", x.count(0), 0);
        due("4 no walk", x.walk(0, 1), -1);
        due("4 fault gone", x.fault(0), 0);
        due("4 place gone", x.fault(1), -1);
        Check.type(x, " \n ");
        due("4 blanks", x.office(), 0);
        due("4 no office", x.now(), -2);
        due("4 start gone", x.count(7), 0);
        due("4 no rooms", x.count(1), 0);
        due("4 nothing", x.office(), 0);
    }

    private static void fault(String text, int fault, int place) {
        StampOrder x = new StampOrder();
        Check.type(x, text);
        due("4 of " + text, x.office(), -4);
        due("5 fault(0) of " + text, x.fault(0), fault);
        due("5 fault(1) of " + text, x.fault(1), place);
        due("5 fault(2) of " + text, x.fault(2), -1);
        due("5 fault(-1) of " + text, x.fault(-1), -1);
    }

    private static void fine(String text, int lines) {
        StampOrder x = new StampOrder();
        Check.type(x, text);
        due("4 of " + text, x.office(), lines);
        due("5 fault(0) of " + text, x.fault(0), 0);
        due("5 fault(1) of " + text, x.fault(1), -1);
    }

    // 5
    private static void faultsOfTheHead() {
        fine("", 0);
        fine("\n", 0);
        fine("office rooms3in0at0;", 1);
        fine("office rooms 0003 in 000 at 0399\n;\n", 1);
        fault(";", 1, 0);
        fault(" 7", 1, 1);
        fault("way 0 1 2;", 1, 0);
        fault("official room 0 from 0 to 9 days 31;", 1, 0);
        fault("officerooms 3", 1, 0);
        fault("office roomsz 3", 1, 7);
        fault("office aroom 3", 1, 7);
        fault("office{", 1, 6);
        fault("office`", 1, 6);
        fault("office rooms /", 1, 13);
        fault("office rooms :", 1, 13);
        fault("Office", 1, 0);
        fault("office\trooms 1 in 0 at 0;", 1, 6);
        fault("office\0", 1, 6);
        fault("office" + (char) 255, 1, 6);
        fault("office", 1, 6);
        fault("office  ", 1, 8);
        fault("office 3", 1, 7);
        fault("office rooms", 1, 12);
        fault("office rooms ;", 1, 13);
        fault("office rooms x", 1, 13);
        fault("office rooms 0 in 0 at 0;", 2, 13);
        fault("office rooms 7 in 0 at 0;", 2, 13);
        fault("office rooms 99999999999999999999 in 0 at 0;", 2, 13);
        fault("office rooms 4294967297 in 0 at 0;", 2, 13);
        fault("office rooms 2 at 0;", 1, 15);
        fault("office rooms 2 in 2 at 0;", 2, 18);
        fault("office rooms 2 in 1 at 400;", 2, 23);
        fault("office rooms 2 in 1 at 399", 1, 26);
        fault("office rooms 2 in 1 at 399 3;", 1, 27);
        fault("office rooms 2 in 1 at 399 ; office", 1, 29);
        fault(HEAD + "#", 1, 25);
        fault(HEAD + ";", 1, 25);
        fault(HEAD + "0", 1, 25);
        fault(HEAD + "rooms", 1, 25);
        fault("office rooms 9 #", 2, 13);
        fault("office # rooms 9", 1, 7);
    }

    private static void faultsOfOfficials() {
        fine(HEAD + FIVE + " price 99 fades 20 lunch 9;", 2);
        fine(HEAD + FIVE + " lunch 0 price 0 fades 1;", 2);
        fault(HEAD + "official room 2", 2, 39);
        fault(HEAD + "official room 0 from 10", 2, 46);
        fault(HEAD + "official room 0 from 5 to 4", 2, 51);
        fault(HEAD + "official room 0 from 5 to 10", 2, 51);
        fault(HEAD + "official room 0 from 5 to 5 days 0", 2, 58);
        fault(HEAD + "official room 0 from 5 to 5 days 32", 2, 58);
        fault(HEAD + "official room 0 to 5 from 5 days 1;", 1, 41);
        fault(HEAD + FIVE, 1, 59);
        fault(HEAD + FIVE + " lunch 10", 2, 66);
        fault(HEAD + FIVE + " fades 0", 2, 66);
        fault(HEAD + FIVE + " fades 21", 2, 66);
        fault(HEAD + FIVE + " price 100", 2, 66);
        fault(HEAD + FIVE + " price;", 1, 65);
        fault(HEAD + FIVE + " lunch 1 lunch 2;", 1, 68);
        fault(HEAD + FIVE + " price 0 price 0;", 1, 68);
        fault(HEAD + FIVE + " fades 1 lunch 2 fades 1;", 1, 76);
        fault(HEAD + FIVE + " fades 1 lunch 2 price 1 price 1;", 1, 84);
        fault(HEAD + FIVE + " days 1;", 1, 60);
        fault(HEAD + FIVE + " 1;", 1, 60);
        String eight = HEAD + (FIVE + ";").repeat(8);
        fine(eight, 9);
        fault(eight + "official room 9", 3, 305);
        fault(eight + "officially", 1, 305);
        fault(eight + "needs 7 8;", 2, 313);
        fine(eight + "needs 7 6;", 10);
    }

    private static void faultsOfTheRest() {
        fault(HEAD + "way 0 0 1;", 2, 31);
        fault(HEAD + "way 2 0 1;", 2, 29);
        fault(HEAD + "way 0 2 1;", 2, 31);
        fault(HEAD + "way 0 1 0;", 2, 33);
        fault(HEAD + "way 0 1 10;", 2, 33);
        fault(HEAD + "way 0 1;", 1, 32);
        fine(HEAD + "way 0 1 9; way 1 0 1; way 0 1 1;", 4);
        fault(HEAD + "permit 0;", 2, 32);
        fault(HEAD + "needs 0 1;", 2, 31);
        fault(HEAD + "leave 0 from 0 to 1;", 2, 31);
        fault(TWO + "needs 2 0;", 2, 101);
        fault(TWO + "needs 0 2;", 2, 103);
        fault(TWO + "needs 0 0;", 2, 103);
        fault(TWO + "bars 1 1;", 2, 102);
        fault(TWO + "needs 0 1;needs 0 1;", 2, 113);
        fault(TWO + "bars 0 1;bars 0 1;", 2, 111);
        fault(TWO + "needs 0 1 1;", 1, 105);
        fine(TWO + "needs 0 1; bars 0 1; needs 1 0; bars 1 0;", 7);
        fault(TWO + "leave 2 from 0 to 0;", 2, 101);
        fault(TWO + "leave 0 from 40 to 40;", 2, 108);
        fault(TWO + "leave 0 from 5 to 4;", 2, 113);
        fault(TWO + "leave 0 from 39 to 40;", 2, 114);
        fault(TWO + "leave 0 to 5;", 1, 103);
        fine(TWO + "leave 0 from 39 to 39; leave 0 from 0 to 39;", 5);
        fault(TWO + "permit;", 1, 101);
        fault(TWO + "permit 2;", 2, 102);
        fault(TWO + "permit 0 2;", 2, 104);
        fault(TWO + "permit 0 x;", 1, 104);
        fault(TWO + "permit 0", 1, 103);
        fine(TWO + "permit 0 1 0 1; permit 1;", 5);
    }

    // 6
    private static void official() {
        StampOrder x = Check.told(THREE + "leave 2 from 3 to 39; leave 0 from 2 to 4;");
        int[][] want = {
            {0, 0, 9, 31, -1, -1, 0, 2, 4},
            {1, 2, 5, 31, 3, 1, 7, -1, -1},
            {2, 0, 9, 5, -1, -1, 20, 3, 39},
        };
        for (int i = 0; i < 3; i++) {
            for (int what = 0; what < 9; what++) {
                due("6 official(" + i + ", " + what + ")", x.official(i, what), want[i][what]);
            }
        }
        due("6 no such official", x.official(3, 0), -2);
        due("6 below", x.official(-1, 0), -2);
        due("6 no such what", x.official(0, 9), -2);
        due("6 what below", x.official(0, -1), -2);
        due("6 other ones", Check.told(HEAD + FIVE + " price 0 fades 20 lunch 0;").official(0, 4), 0);
    }

    // 7, 8
    private static void asksAndAsked() {
        StampOrder x = free(4, "needs 0 1; needs 0 3; needs 2 1; bars 0 1; bars 3 0; bars 2 0;");
        due("7 needs 0", x.asks(0, 0), 10);
        due("7 needs 2", x.asks(2, 0), 2);
        due("7 needs 1", x.asks(1, 0), 0);
        due("7 bars 0", x.asks(0, 1), 2);
        due("7 bars 3", x.asks(3, 1), 1);
        due("8 who needs 1", x.asked(1, 0), 5);
        due("8 who needs 3", x.asked(3, 0), 1);
        due("8 who bars 0", x.asked(0, 1), 12);
        due("8 who bars 1", x.asked(1, 1), 1);
        due("8 who bars 2", x.asked(2, 1), 0);
        for (int bad : new int[] {-1, 2}) {
            due("7 no such what", x.asks(0, bad), -2);
            due("8 no such what", x.asked(0, bad), -2);
        }
        for (int bad : new int[] {-1, 4, 8}) {
            due("7 no such official", x.asks(bad, 0), -2);
            due("8 no such official", x.asked(bad, 1), -2);
        }
    }

    // 9, 10, 11
    private static void openOpensWeek() {
        StampOrder x = Check.told(HEAD
                + "official room 0 from 2 to 5 days 5 lunch 3;"
                + "official room 0 from 0 to 0 days 16;"
                + "official room 0 from 4 to 4 days 31 lunch 4;"
                + "official room 0 from 9 to 9 days 16 lunch 4;"
                + "leave 0 from 2 to 6; leave 1 from 0 to 39;");
        for (int hour : new int[] {2, 4, 5, 72, 75, 102}) {
            due("9 open(0, " + hour + ")", x.open(0, hour), 1);
        }
        for (int hour : new int[] {0, 1, 3, 6, 12, 22, 52, 32, 132, 399}) {
            due("9 open(0, " + hour + ")", x.open(0, hour), 0);
        }
        due("9 no such hour", x.open(0, 400), -2);
        due("9 hour below", x.open(0, -1), -2);
        due("9 no such official", x.open(4, 0), -2);
        due("9 on leave", x.open(1, 40), 0);
        due("9 last hour", x.open(3, 399), 1);
        due("10 at once", x.opens(0, 2), 2);
        due("10 lunch", x.opens(0, 3), 4);
        due("10 leave", x.opens(0, 6), 72);
        due("10 next week", x.opens(0, 76), 102);
        due("10 none", x.opens(1, 0), -1);
        due("10 lunch alone", x.opens(2, 0), -1);
        due("10 last", x.opens(3, 350), 399);
        due("10 very last", x.opens(3, 399), 399);
        due("10 too late", x.opens(0, 399), -1);
        due("10 no such hour", x.opens(0, 400), -2);
        due("10 hour below", x.opens(0, -1), -2);
        due("10 no such official", x.opens(-1, 0), -2);
        due("11 week", x.week(0), 6);
        due("11 leave aside", x.week(1), 1);
        due("11 none", x.week(2), 0);
        due("11 lunch outside", x.week(3), 1);
        due("11 no such official", x.week(4), -2);
        due("11 below", x.week(-1), -2);
    }

    // 12
    private static void walk() {
        StampOrder x = Check.told("office rooms 5 in 0 at 0; way 0 1 9; way 1 2 2; way 2 0 3; way 2 3 9; way 3 2 1;");
        due("12 itself", x.walk(4, 4), 0);
        due("12 shorter by another", x.walk(0, 1), 5);
        due("12 either way", x.walk(1, 0), 5);
        due("12 the later strikes", x.walk(2, 3), 1);
        due("12 far", x.walk(3, 0), 4);
        due("12 none", x.walk(4, 0), -1);
        due("12 no such room", x.walk(5, 0), -2);
        due("12 no such other", x.walk(0, 5), -2);
        due("12 below", x.walk(-1, 0), -2);
        due("12 other below", x.walk(0, -1), -2);
    }

    // 13
    private static void permit() {
        due("13 nobody", free(2, "").permit(), 0);
        due("13 like ones", free(3, "permit 2 0 2;").permit(), 5);
        due("13 the later strikes", free(3, "permit 2 0; permit 1;").permit(), 2);
        due("13 no office", new StampOrder().permit(), -2);
    }

    // 14 to 21, 23 to 28
    private static void goneToByHand() {
        StampOrder x = Check.told(THREE);
        due("14 now", x.now(), 0);
        due("15 room", x.room(), 0);
        due("16 held", x.held(), 0);
        due("17 not held", x.until(1), -1);
        due("18 when 0", x.when(0), 0);
        due("18 when 1", x.when(1), -1);
        due("18 when 2", x.when(2), 5);
        due("19 why 1", x.why(1), 4);
        due("20 can", x.can(), 5);
        due("28 done", x.done(), 0);
        due("21 go 1", x.go(1), -5);
        due("21 go 0", x.go(0), 0);
        due("14 now", x.now(), 1);
        due("16 held", x.held(), 1);
        due("17 never fades", x.until(0), -1);
        due("19 held", x.why(0), 1);
        due("18 held", x.when(0), -1);
        due("21 held", x.go(0), -5);
        due("18 lunch", x.when(1), 4);
        due("21 go 1", x.go(1), 4);
        due("14 now", x.now(), 5);
        due("15 room", x.room(), 1);
        due("16 held", x.held(), 3);
        due("17 until", x.until(1), 14);
        due("28 done", x.done(), 1);
        due("26 shoes", x.shoes(), 2);
        due("27 paid", x.paid(), 7);
        due("18 barred till it fades", x.when(2), 20);
        due("19 it would", x.why(2), 0);
        due("20 can", x.can(), 4);
        due("25 led 0", x.led(0), 0);
        due("25 led 1", x.led(1), 1);
        due("25 led 2", x.led(2), -1);
        due("25 led below", x.led(-1), -1);
        due("23 undo", x.undo(), 1);
        due("14 now", x.now(), 1);
        due("15 room", x.room(), 0);
        due("16 held", x.held(), 1);
        due("26 shoes", x.shoes(), 0);
        due("27 paid", x.paid(), 0);
        due("21 again", x.go(1), 4);
        due("21 go 2", x.go(2), 20);
        due("16 held", x.held(), 5);
        due("28 faded", x.done(), 0);
        due("26 shoes", x.shoes(), 5);
        due("27 paid", x.paid(), 27);
        due("24 anew", x.anew(), 3);
        due("24 none", x.anew(), 0);
        due("23 none", x.undo(), -5);
        due("14 now", x.now(), 0);
        due("16 held", x.held(), 0);
        due("27 paid", x.paid(), 0);
        due("18 no such", x.when(3), -2);
        due("21 no such", x.go(3), -2);
        due("21 below", x.go(-1), -2);
        due("17 no such", x.until(3), -2);
        due("19 no such", x.why(-1), -2);
    }

    // 16, 17: held in hours t + 1 .. t + 10 fades
    private static void untilAndFading() {
        StampOrder x = Check.told("office rooms 1 in 0 at 380; official room 0 from 0 to 9 days 31 fades 1;"
                + "official room 0 from 0 to 9 days 31 fades 20; permit 0;");
        due("21 go", x.go(0), 380);
        due("17 until", x.until(0), 390);
        due("22 waits", x.waits(9), 390);
        due("16 still held", x.held(), 1);
        due("28 still done", x.done(), 1);
        due("17 still", x.until(0), 390);
        due("21 still held", x.go(0), -5);
        due("22 waits", x.waits(1), 391);
        due("16 faded", x.held(), 0);
        due("28 no more", x.done(), 0);
        due("17 faded", x.until(0), -1);
        due("21 once more", x.go(0), 391);
        due("17 anew", x.until(0), 401);
        due("21 the other", x.go(1), 392);
        due("17 beyond the last hour", x.until(1), 592);
        due("16 both", x.held(), 3);
        due("25 led", x.led(1), 19);
        due("27 twice", x.paid(), 0);
    }

    // 19
    private static void why() {
        StampOrder x = Check.told("office rooms 3 in 0 at 0;"
                + "official room 0 from 0 to 0 days 31 fades 1;"      // 0: fades
                + "official room 2 from 0 to 9 days 31;"              // 1: no way to it
                + "official room 1 from 0 to 9 days 1;"               // 2: on leave later on
                + "official room 0 from 2 to 2 days 2;"               // 3: needs 0, open when it has faded
                + "official room 0 from 5 to 5 days 1;"               // 4: bars 0 while it is held
                + "official room 0 from 0 to 9 days 31;"              // 5: needs 0, bars 6
                + "official room 0 from 0 to 9 days 31;"              // 6: never fades
                + "way 0 1 9; leave 2 from 1 to 39; needs 3 0; bars 4 0; needs 5 0; bars 5 6;"
                + "leave 4 from 2 to 39;");
        due("19 it would", x.why(0), 0);
        due("19 no way", x.why(1), 2);
        due("19 in time", x.why(2), 0);
        due("19 needs", x.why(3), 4);
        due("19 nothing barred", x.why(4), 0);
        x.go(0);
        due("19 held", x.why(0), 1);
        due("19 too late", x.why(2), 3);
        due("19 faded when it opens", x.why(3), 4);
        due("19 barred while it opens", x.why(4), 5);
        due("19 would", x.why(5), 0);
        due("18 would", x.when(5), 1);
        x.go(6);
        due("19 barred for ever", x.why(5), 5);
        due("20 can", x.can(), 0);
        x.waits(9);
        due("19 needs gone first", x.why(5), 4);
        due("19 again", x.why(0), 0);
    }

    // 21, 22, 23
    private static void goWaitsUndo() {
        StampOrder x = free(1, "");
        for (int i = 1; i <= 40; i++) {
            due("22 waits", x.waits(1), i);
        }
        due("22 there were 40", x.waits(1), -5);
        due("21 there were 40", x.go(0), -5);
        due("14 stays", x.now(), 40);
        due("23 undo", x.undo(), 39);
        due("21 the 40th", x.go(0), 39);
        due("22 there were 40", x.waits(1), -5);
        due("25 led", x.led(39), 0);
        due("25 led", x.led(38), 11);
        due("24 anew", x.anew(), 40);
        due("22 none", x.waits(0), -2);
        due("22 below", x.waits(-1), -2);
        due("22 too many", x.waits(100), -2);
        due("22 most", x.waits(99), 99);
        due("25 most", x.led(0), 109);
        due("22 no office", new StampOrder().waits(1), -2);
        due("21 no office", new StampOrder().go(0), -2);
        due("23 no office", new StampOrder().undo(), -2);
        due("24 no office", new StampOrder().anew(), -2);
        due("25 no office", new StampOrder().led(0), -2);
    }

    // 14, 18, 19, 21, 22 at hour 400
    private static void lastHour() {
        StampOrder x = Check.told("office rooms 2 in 0 at 399;" + FREE + FREE
                + "official room 1 from 0 to 9 days 31; way 0 1 1; permit 0;");
        due("18 last hour", x.when(0), 399);
        due("18 a walk too late", x.when(2), -1);
        due("19 a walk too late", x.why(2), 3);
        due("29 last hour", x.soonest(), 400);
        due("57 last hour", x.blind(0), 400);
        due("22 to 400", x.waits(1), 400);
        due("22 beyond", x.waits(1), -5);
        due("18 nobody any more", x.when(0), -1);
        due("19 nobody any more", x.why(0), 3);
        due("29 none", x.soonest(), -1);
        x.undo();
        due("21 last", x.go(0), 399);
        due("14 now", x.now(), 400);
        due("28 done", x.done(), 1);
        due("21 nobody any more", x.go(1), -5);
        due("20 nobody", x.can(), 0);
        due("29 done", x.soonest(), 400);
    }

    // 29 to 37
    private static void rows() {
        StampOrder x = Check.told(THREE);
        due("29 soonest", x.soonest(), 5);
        due("30 step 0", x.step(0), 0);
        due("30 step 1", x.step(1), 1);
        due("30 step 2", x.step(2), -1);
        due("30 step below", x.step(-1), -1);
        due("31 fewest", x.fewest(), 2);
        due("32 least", x.least(), 2);
        due("33 tread 0", x.tread(0), 0);
        due("33 tread 1", x.tread(1), 1);
        due("33 tread 2", x.tread(2), -1);
        due("33 tread below", x.tread(-1), -1);
        due("34 cheapest", x.cheapest(), 7);
        due("35 whom", x.whom(), 3);
        due("36 ways", x.ways(), 3);
        due("37 always", x.always(0), 3);
        due("37 in some", x.always(1), 7);
        due("37 no such", x.always(2), -2);
        due("37 below", x.always(-1), -2);
        x.go(2);
        due("29 from now on", x.soonest(), 25);
        due("32 from now on", x.least(), 7);
        due("34 from now on", x.cheapest(), 7);
        due("36 from now on", x.ways(), 1);
        x.undo();
        x.go(0);
        due("37 held aside", x.always(0), 2);
        x.go(1);
        due("29 done now", x.soonest(), 5);
        due("30 no step", x.step(0), -1);
        due("31 none needed", x.fewest(), 0);
        due("32 no walk", x.least(), 0);
        due("34 no price", x.cheapest(), 0);
        due("35 nobody", x.whom(), 0);
        due("36 the empty row", x.ways(), 1);
        due("37 nobody", x.always(0), 0);
        due("37 nobody", x.always(1), 0);
        due("33 no tread", x.tread(0), -1);
        x = Check.told(THREE + "permit 0 1 2; leave 2 from 0 to 39;");
        due("29 by no row", x.soonest(), -1);
        due("30 by no row", x.step(0), -1);
        due("31 by no row", x.fewest(), -1);
        due("32 by no row", x.least(), -1);
        due("33 by no row", x.tread(0), -1);
        due("34 by no row", x.cheapest(), -1);
        due("35 by no row", x.whom(), -1);
        due("36 by no row", x.ways(), 0);
        due("37 by no row", x.always(0), 0);
        due("37 by no row", x.always(1), 0);
        due("38 by no row", x.slack(1), -1);
        StampOrder all = free(8, "permit 0 1 2 3 4 5 6 7;");
        due("36 all orders", all.ways(), 40320);
        due("29 all", all.soonest(), 8);
        due("30 the least row", all.step(7), 7);
        due("36 none of whose beginnings", free(3, "permit 0;").ways(), 5);
        // 1 and 0, 1: as soon, but longer
        x = free(2, "permit 1;");
        due("30 the shorter", x.step(0), 1);
        due("37 in all", x.always(0), 2);
        due("37 in some", x.always(1), 3);
    }

    /** Whose STAMP is held now is aside, though it fades; who faded already is not. */
    private static void rowsAside() {
        StampOrder x = Check.told("office rooms 1 in 0 at 0; official room 0 from 0 to 0 days 31 fades 1;"
                + "official room 0 from 0 to 0 days 30; permit 0 1;");
        // 0 fades just when 1 has stamped: 1 is first
        due("29 both", x.soonest(), 21);
        due("30 the other first", x.step(0), 1);
        x.go(0);
        due("29 held, and fades in the row", x.soonest(), -1);
        x.waits(9);
        due("29 in its last hour", x.soonest(), -1);
        x.waits(1);
        due("29 faded, gone to again", x.soonest(), 31);
        due("30 the other first", x.step(0), 1);
        due("30 the faded one", x.step(1), 0);
        x = Check.told("office rooms 1 in 0 at 0; official room 0 from 0 to 0 days 1 fades 1;"
                + "official room 0 from 0 to 0 days 4; permit 0 1;");
        x.go(0);
        due("29 never together", x.soonest(), -1);
        x.waits(10);
        due("29 the faded one again", x.soonest(), 51);
    }

    // 32 to 35: other rows than the soonest
    private static void leastAndCheapest() {
        StampOrder x = Check.told("office rooms 3 in 0 at 0;"
                + "official room 1 from 0 to 9 days 1 price 9;"
                + "official room 2 from 0 to 9 days 31 price 4;"
                + "official room 0 from 9 to 9 days 31 price 5;"
                + "official room 2 from 0 to 9 days 31 price 0;"
                + "way 0 1 1; way 0 2 2; permit 0; needs 0 1;");
        due("29 soonest", x.soonest(), 7);
        due("32 least", x.least(), 5);
        due("34 cheapest", x.cheapest(), 13);
        due("35 whom", x.whom(), 3);
        x = Check.told("office rooms 2 in 0 at 0;"
                + "official room 0 from 0 to 0 days 30 fades 1 price 9;"
                + "official room 0 from 0 to 9 days 1 price 30;"
                + "official room 1 from 0 to 9 days 31 price 1;"
                + "way 0 1 2; bars 0 1; bars 1 2; permit 0 2;");
        // 0, 2: 10, then 13; 2, 0: 2, then 10, at 11
        due("29 soonest", x.soonest(), 11);
        due("30 step 0", x.step(0), 2);
        due("32 least", x.least(), 2);
        due("33 tread 0", x.tread(0), 0);
        due("33 tread 1", x.tread(1), 2);
        due("34 cheapest", x.cheapest(), 10);
        due("35 whom", x.whom(), 5);
        // a dear short way against a cheap long one
        x = Check.told("office rooms 2 in 0 at 0;"
                + "official room 0 from 0 to 9 days 31 price 50;"
                + "official room 1 from 0 to 9 days 31 price 0;"
                + "official room 1 from 0 to 9 days 31 price 0;"
                + "way 0 1 3; permit 2;");
        due("34 nothing", x.cheapest(), 0);
        due("35 the shorter", x.whom(), 4);
        due("33 the shorter", x.tread(0), 2);
        due("31 one", x.fewest(), 1);
    }

    // 38
    private static void slack() {
        StampOrder x = Check.told(THREE);
        due("38 slack", x.slack(1), 9);
        due("38 never fades", x.slack(0), -1);
        due("38 none of the row", x.slack(2), -1);
        due("38 no such", x.slack(3), -2);
        due("38 below", x.slack(-1), -2);
        x = Check.told("office rooms 1 in 0 at 0; official room 0 from 0 to 9 days 31 fades 1;"
                + "official room 0 from 0 to 9 days 31; official room 0 from 0 to 0 days 2 fades 2;"
                + "needs 1 0; needs 2 1; permit 1 2;");
        due("29 soonest", x.soonest(), 11);
        due("38 not held then", x.slack(0), -1);
        due("38 held then", x.slack(2), 19);
        x = Check.told("office rooms 1 in 0 at 0; official room 0 from 0 to 9 days 31 fades 1;"
                + "official room 0 from 9 to 9 days 31; needs 1 0; permit 0 1;");
        due("38 in its last hour", x.slack(0), 0);
        x.go(0);
        due("38 none of that row", x.slack(0), -1);
    }

    // 39
    private static void start() {
        StampOrder x = Check.told("office rooms 2 in 0 at 7; official room 1 from 3 to 3 days 3; way 0 1 2; permit 0;");
        due("39 first", x.start(0), 1);
        due("39 walks, and is stamped", x.start(1), 3);
        x.waits(20);
        due("39 anew", x.start(0), 1);
        due("39 anew", x.start(1), 3);
        x.anew();
        x.leave(0, 0, 0);
        due("39 leave", x.start(0), 11);
        due("39 leave", x.start(1), 3);
        x.leave(0, 0, 4);
        due("39 waits over the week's end", x.start(0), 49);
        due("39 waits over the week's end", x.start(1), 5);
        x.wants(0);
        due("39 nobody", x.start(0), 0);
        due("39 nobody", x.start(1), 0);
        due("39 no such", x.start(2), -2);
        due("39 below", x.start(-1), -2);
        x = Check.told("office rooms 1 in 0 at 0;" + FREE + FREE + "needs 0 1; needs 1 0; permit 1;");
        due("39 none", x.start(0), -1);
        due("39 none", x.start(1), -1);
        x = Check.told("office rooms 2 in 1 at 0;" + FREE + "permit 0; way 0 1 4;");
        due("39 from its room", x.start(0), 0);
        due("39 from its room", x.start(1), 5);
        x = Check.told("office rooms 1 in 0 at 0; official room 0 from 3 to 3 days 31;"
                + "official room 0 from 6 to 6 days 31; permit 0 1;");
        due("39 one behind the other", x.start(0), 3);
        due("39 one behind the other", x.start(1), 4);
        due("39 no office", new StampOrder().start(1), -2);
    }

    // 40, 41
    private static void forged() {
        StampOrder x = Check.told("office rooms 2 in 0 at 0;"
                + "official room 0 from 0 to 9 days 31;"
                + "official room 1 from 5 to 5 days 31 fades 1;"
                + "official room 0 from 0 to 9 days 31;"
                + "official room 0 from 0 to 9 days 31;"
                + "way 0 1 2; needs 2 1; needs 0 2; bars 0 3; permit 0 2;");
        // 1 at 5, walk, 2 at 8, 0 at 9: 10. With 1: 2 at 0, 0 at 1. With 2: 0 at 0. With 0: 1 at 5, 2 at 8
        due("29 soonest", x.soonest(), 10);
        due("40 of 0", x.forged(0), 1);
        due("40 of 1", x.forged(1), 8);
        due("40 of 2", x.forged(2), 9);
        due("40 barred by it", x.forged(3), -1000);
        due("40 no such", x.forged(4), -2000);
        due("40 below", x.forged(-1), -2000);
        due("41 fake", x.fake(), 2);
        x.go(1);
        due("40 held already", x.forged(1), 0);
        due("40 still", x.forged(2), 1);
        due("41 first of several", x.fake(), 0);
        x.go(2);
        x.go(0);
        due("41 done already", x.fake(), -1);
        due("40 done already", x.forged(3), 0);
        x = free(3, "needs 0 1; needs 1 0; permit 0;");
        due("40 not done the one way", x.forged(0), -1000);
        due("41 none", x.fake(), -1);
        // a stamp that fades would be had too late: forged it never does
        x = Check.told("office rooms 1 in 0 at 0; official room 0 from 0 to 0 days 1 fades 1;"
                + "official room 0 from 0 to 0 days 24; needs 1 0; permit 1;");
        x.go(0);
        due("40 not without", x.forged(0), -1000);
        // one that is barred makes it later: below 0
        x = Check.told("office rooms 1 in 0 at 0;" + FREE + FREE
                + "official room 0 from 9 to 9 days 31; bars 0 1; needs 1 0; needs 2 1; needs 2 0; permit 0;");
        due("40 barred", x.forged(1), -1000);
        due("40 no matter", x.forged(2), 0);
        due("41 sooner", x.fake(), 0);
        due("41 no office", new StampOrder().fake(), -2);
    }

    // 42, 43, 44, 47
    private static void sets() {
        StampOrder x = free(5, "needs 1 0; needs 2 1; bars 3 0;");
        due("43 sets", x.sets(), 16);
        due("44 never", x.never(), 0);
        due("42 nobody", x.possible(0), 1);
        due("42 needs", x.possible(2), 0);
        due("42 3 first", x.possible(9), 1);
        due("42 a gap", x.possible(5), 0);
        due("42 all", x.possible(31), 1);
        due("42 no such", x.possible(32), -2);
        due("42 below", x.possible(-1), -2);
        due("47 nobody", x.orders(0), 1);
        due("47 all", x.orders(31), 5);
        due("47 not", x.orders(2), 0);
        due("47 two", x.orders(9), 1);
        due("47 free ones", x.orders(24), 2);
        due("47 no such", x.orders(32), -2);
        due("47 below", x.orders(-1), -2);
        due("47 eight", free(8, "").orders(255), 40320);
        due("43 eight", free(8, "").sets(), 256);
        x = free(3, "bars 0 1; bars 1 0; needs 2 0; bars 2 0;");
        due("42 barred either way", x.possible(3), 0);
        due("43 nobody and two", x.sets(), 3);
        due("44 needs and bars of the same", x.never(), 4);
        StampOrder none = Check.told("office rooms 1 in 0 at 0;");
        due("43 no officials", none.sets(), 1);
        due("42 no officials", none.possible(0), 1);
        due("42 no officials", none.possible(1), -2);
        due("47 no officials", none.orders(0), 1);
        due("47 no office", new StampOrder().orders(0), -2);
        due("42 no office", new StampOrder().possible(0), -2);
        // gone to and fading are aside
        x = free(2, "bars 1 0;");
        x.go(0);
        due("42 hours aside", x.possible(2), 1);
        due("47 hours aside", x.orders(3), 1);
    }

    // 45, 46
    private static void ringAndDepth() {
        StampOrder x = free(7, "needs 0 1; needs 1 2; needs 2 0; needs 3 0; needs 5 4; needs 2 6; bars 4 5;");
        due("45 ring", x.ring(), 7);
        due("46 in it", x.depth(0), -1);
        due("46 behind it", x.depth(3), -1);
        due("46 ahead of it", x.depth(6), 1);
        due("46 none", x.depth(4), 1);
        due("46 one", x.depth(5), 2);
        due("46 no such", x.depth(7), -2);
        due("46 below", x.depth(-1), -2);
        due("44 never", x.never(), 15);
        x = free(8, "needs 0 1; needs 1 2; needs 2 3; needs 3 4; needs 4 5; needs 5 6; needs 6 7; needs 0 7; bars 7 0;");
        due("45 none", x.ring(), 0);
        due("46 longest", x.depth(0), 8);
        due("46 short", x.depth(6), 2);
        x = free(5, "needs 0 1; needs 1 0; needs 2 3; needs 3 2; needs 4 1; needs 4 2;");
        due("45 two rings", x.ring(), 15);
        due("46 behind both", x.depth(4), -1);
    }

    // 48, 49
    private static void loose() {
        StampOrder x = free(4, "needs 0 1; needs 1 2; needs 2 0; permit 0;");
        due("48 ring", x.loose(), 1);
        due("49 the shorter", x.loosely(0), 0);
        due("49 no more", x.loosely(1), -1);
        due("49 below", x.loosely(-1), -1);
        x = free(4, "needs 0 1; needs 0 2; permit 0;");
        due("48 nothing", x.loose(), 0);
        due("49 first", x.loosely(0), 1);
        due("49 second", x.loosely(1), 2);
        due("49 third", x.loosely(2), 0);
        due("49 no more", x.loosely(3), -1);
        x = free(2, "bars 0 1; bars 1 0; permit 0 1;");
        due("48 bars", x.loose(), 1);
        due("49 the least", x.loosely(0), 0);
        due("49 the other", x.loosely(1), 1);
        x = free(3, "bars 0 1; bars 1 0; needs 0 1; needs 1 0; permit 0 1;");
        due("48 both", x.loose(), 2);
        x = free(3, "");
        due("48 nobody", x.loose(), 0);
        due("49 nobody", x.loosely(0), -1);
        x = free(3, "needs 0 1; needs 1 2; bars 0 2; permit 0;");
        // 2, 1, 0 costs 1; 1, 0 costs 1 and is shorter; 0 costs 1 and is shortest
        due("48 one of them", x.loose(), 1);
        due("49 the shortest", x.loosely(0), 0);
        due("48 no office", new StampOrder().loose(), -2);
        due("49 no office", new StampOrder().loosely(0), -2);
    }

    // 50
    private static void parted() {
        StampOrder x = free(3, "needs 0 1; needs 1 2; needs 2 0; permit 2;");
        due("50 the first needs", x.parted(), 1);
        x = free(3, "needs 0 1; needs 1 0; needs 2 1; permit 2;");
        due("50 first of two", x.parted(), 1);
        x = free(4, "bars 3 2; bars 2 3; permit 2 3;");
        due("50 bars", x.parted(), 123);
        x = free(4, "bars 3 2; bars 2 3; needs 3 2; permit 2 3;");
        due("50 a bar", x.parted(), 132);
        x = free(4, "bars 3 2; bars 2 3; bars 0 1; bars 1 0; permit 0 1 2 3;");
        due("50 none alone", x.parted(), -1);
        x = free(2, "needs 1 0; permit 1;");
        due("50 anyway", x.parted(), -1);
        due("50 nobody", free(2, "").parted(), -1);
        due("50 whom 0", free(2, "needs 1 0; needs 0 1; permit 1; bars 0 1;").parted(), 1);
        due("50 who 1", free(3, "needs 1 0; bars 1 0; permit 1;").parted(), 10);
        due("50 no office", new StampOrder().parted(), -2);
        x = free(4, "needs 3 2; bars 3 2; permit 3;");
        due("50 needs ahead of bars", x.parted(), 32);
        due("43 nothing was dropped", x.sets(), 8);
        due("7 nothing was dropped", x.asks(3, 0), 4);
    }

    // 51, 52
    private static void judgeAndBribed() {
        StampOrder x = free(5, "needs 1 0; needs 2 1; bars 3 0;");
        Check.lay(x, 0, 3, 0, 1, 2);
        due("51 all", x.judge(0), 4);
        due("52 nobody", x.bribed(0), 0);
        Check.lay(x, 0, 0, 3, 1);
        due("51 barred", x.judge(0), 1);
        due("52 barred", x.bribed(0), 8);
        Check.lay(x, 0, 0, 4, 0);
        due("51 again", x.judge(0), 2);
        due("52 again", x.bribed(0), 1);
        Check.lay(x, 0, 1, 2, 0, 0);
        due("51 needs", x.judge(0), 0);
        due("52 all being held once they did", x.bribed(0), 3);
        x.row(0, 3, 0);
        due("51 nobody", x.judge(0), 0);
        due("52 nobody", x.bribed(0), 0);
        x.go(0);
        Check.lay(x, 0, 0, 1);
        due("51 from nobody", x.judge(0), 2);
        Check.lay(x, 1, 0, 5);
        due("51 a number is none", x.judge(1), -2);
        due("52 a number is none", x.bribed(1), -2);
        due("51 nothing", x.judge(2), -6);
        due("52 nothing", x.bribed(2), -6);
        due("51 no slot", x.judge(4), -2);
        due("52 no slot", x.bribed(-1), -2);
        x.row(2, 3, 1);
        x.write(2, 0, 1L << 32);
        due("51 a long number is none", x.judge(2), -2);
        x.write(2, 0, -1);
        due("51 below", x.judge(2), -2);
        due("51 no office", new StampOrder().judge(0), -2);
    }

    // 53
    private static void run() {
        StampOrder x = Check.told(THREE);
        Check.lay(x, 0, 0, 1, 2);
        due("53 run", x.run(0), 21);
        x.go(2);
        due("53 from the start", x.run(0), 21);
        Check.lay(x, 0, 2, 0, 1);
        due("53 run", x.run(0), 25);
        Check.lay(x, 0, 1);
        due("53 never", x.run(0), -1);
        Check.lay(x, 0, 0, 0);
        due("53 held", x.run(0), -1);
        x.row(0, 1, 0);
        due("53 nobody", x.run(0), 0);
        Check.lay(x, 0, 3);
        due("53 a number is none", x.run(0), -2);
        due("53 nothing", x.run(1), -6);
        due("53 no slot", x.run(4), -2);
        due("53 no slot below", x.run(-1), -2);
        x = Check.told("office rooms 1 in 0 at 5; official room 0 from 0 to 9 days 31 fades 1;"
                + "official room 0 from 6 to 6 days 2;");
        Check.lay(x, 0, 0, 1, 0);
        due("53 faded, again", x.run(0), 18);
        x.row(1, 0, 0);
        due("53 at the start", x.run(1), 5);
    }

    // 54, 55
    private static void queue() {
        StampOrder x = Check.told("office rooms 2 in 0 at 0;" + FREE
                + "official room 1 from 5 to 5 days 31; way 0 1 1;");
        Check.lay(x, 0, 0, 1);
        for (int n = 1; n <= 9; n++) {
            due("54 queue " + n, x.queue(0, n), 10 * n - 4);
        }
        due("54 none", x.queue(0, 0), -2);
        due("54 below", x.queue(0, -1), -2);
        due("54 ten", x.queue(0, 10), -2);
        due("55 served", x.served(0, 26), 3);
        due("55 not yet", x.served(0, 25), 2);
        due("55 at first", x.served(0, 0), 0);
        due("55 at last", x.served(0, 400), 9);
        due("55 no such hour", x.served(0, 401), -2);
        due("55 hour below", x.served(0, -1), -2);
        due("53 nobody ahead", x.run(0), 6);
        Check.lay(x, 1);
        due("54 nobody", x.queue(1, 9), 0);
        due("55 nobody", x.served(1, 0), 9);
        Check.lay(x, 2, 2);
        due("54 a number is none", x.queue(2, 1), -2);
        due("55 a number is none", x.served(2, 1), -2);
        due("54 nothing", x.queue(3, 1), -6);
        due("55 nothing", x.served(3, 1), -6);
        due("54 no slot", x.queue(4, 1), -2);
        due("55 no slot", x.served(4, 1), -2);
        // eight hours are left: the ninth is never through
        x = Check.told("office rooms 1 in 0 at 392;" + FREE);
        Check.lay(x, 0, 0);
        due("54 eight", x.queue(0, 8), 400);
        due("54 the ninth", x.queue(0, 9), -1);
        due("55 the ninth", x.served(0, 400), 8);
        due("56 the ninth", x.chair(0), -1);
        // who fails has taken hours: the first get 0 and miss 1, who opens when 0 has faded
        x = Check.told("office rooms 1 in 0 at 0; official room 0 from 0 to 9 days 31 fades 1;"
                + "official room 0 from 3 to 3 days 2; needs 1 0;");
        Check.lay(x, 0, 0, 1);
        due("54 the first fail", x.queue(0, 9), -1);
        due("55 one is through", x.served(0, 400), 1);
        due("55 by then", x.served(0, 14), 1);
        due("55 not sooner", x.served(0, 13), 0);
    }

    // 56
    private static void chair() {
        StampOrder x = Check.told("office rooms 2 in 0 at 0;" + FREE
                + "official room 1 from 5 to 5 days 31; way 0 1 1;");
        Check.lay(x, 0, 0, 1);
        due("56 chair", x.chair(0), 1);
        Check.lay(x, 0, 0);
        due("56 alone", x.chair(0), 0);
        Check.lay(x, 0);
        due("56 the row has none", x.chair(0), -1);
        Check.lay(x, 0, 0, 0);
        due("56 never through", x.chair(0), -1);
        due("56 nothing", x.chair(1), -6);
        due("56 no slot", x.chair(4), -2);
        Check.lay(x, 0, 2);
        due("56 a number is none", x.chair(0), -2);
        // 36 hours at either
        x = Check.told("office rooms 1 in 0 at 5;" + FREE + FREE + "leave 1 from 0 to 0;");
        Check.lay(x, 0, 0, 1);
        due("56 the least", x.chair(0), 0);
        x = Check.told("office rooms 1 in 0 at 5;" + FREE + FREE + "leave 0 from 0 to 0;");
        Check.lay(x, 0, 1, 0);
        due("56 the least", x.chair(0), 0);
        x = Check.told("office rooms 1 in 0 at 5;" + FREE + FREE + "leave 0 from 0 to 1;");
        Check.lay(x, 0, 1, 0);
        due("56 the later one", x.chair(0), 0);
        x = Check.told("office rooms 1 in 0 at 0;" + FREE + FREE);
        Check.lay(x, 0, 1, 0);
        due("56 the first one", x.chair(0), 1);
    }

    // 57, 58: draws of seed 1 are 16838, 5758, 10113, ..; of seed 0 0, 21468, ..
    private static void blind() {
        StampOrder x = Check.told("office rooms 1 in 0 at 0;" + FREE + FREE
                + "official room 0 from 9 to 9 days 31; permit 0 1 2;");
        due("57 seed 1", x.blind(1), 12);
        due("58 seed 1", x.tries(1), 3);
        due("57 seed 0", x.blind(0), 10);
        due("57 no such", x.blind(-1), -2);
        due("57 no such", x.blind(2000000001), -2);
        due("58 no such", x.tries(-1), -2);
        due("58 no such", x.tries(2000000001), -2);
        due("58 the last", x.tries(2000000000), 3);
        x.go(0);
        due("57 from now on", x.blind(1), 10);
        due("58 from now on", x.tries(1), 2);
        x.wants(1);
        due("57 done", x.blind(1), 1);
        due("58 done", x.tries(1), 0);
        x = free(3, "needs 0 1; needs 1 0; permit 0;");
        due("57 never", x.blind(7), -1);
        due("58 till there is none", x.tries(7), 1);
        // held at first and faded in it: not gone to
        x = Check.told("office rooms 1 in 0 at 0; official room 0 from 0 to 9 days 31 fades 1;"
                + "official room 0 from 5 to 5 days 2; permit 0 1;");
        x.go(0);
        due("57 faded", x.blind(0), -1);
        due("58 faded", x.tries(0), 1);
        due("57 no office", new StampOrder().blind(0), -2);
        due("58 no office", new StampOrder().tries(0), -2);
    }

    // 59, 60
    private static void luckAndWorth() {
        StampOrder x = Check.told("office rooms 1 in 0 at 0;" + FREE + FREE
                + "official room 0 from 9 to 9 days 31; permit 0 1 2;");
        due("59 luck", x.luck(0, 2), 2);
        due("59 most", x.luck(2000000000, 20), 20);
        due("60 mean above", x.worth(0, 2, 0), 1);
        due("60 mean below", x.worth(0, 2, 1), 1);
        due("60 none above", x.worth(0, 1, 0), 0);
        due("60 none below", x.worth(0, 1, 1), 1);
        due("60 two above", x.worth(1, 1, 0), 2);
        due("60 no such what", x.worth(0, 1, 2), -2);
        due("60 what below", x.worth(0, 1, -1), -2);
        for (int bad : new int[] {0, -1, 21}) {
            due("59 no such n", x.luck(0, bad), -2);
            due("60 no such n", x.worth(0, bad, 0), -2);
        }
        for (int bad : new int[] {-1, 2000000001}) {
            due("59 no such seed", x.luck(bad, 1), -2);
            due("60 no such seed", x.worth(bad, 1, 0), -2);
        }
        // 1 bars 0: who draws 1 first is not done
        x = free(2, "bars 0 1; permit 0;");
        due("57 seed 0", x.blind(0), 1);
        int lucky = 0;
        for (int seed = 0; seed < 20; seed++) {
            lucky += x.blind(seed) == -1 ? 0 : 1;
        }
        due("59 some", x.luck(0, 20), lucky);
        due("59 not all", lucky > 0 && lucky < 20 ? 1 : 0, 1);
        due("60 those alone that are done", x.worth(0, 20, 0), 0);
        due("60 those alone that are done", x.worth(0, 20, 1), 1);
        x = free(2, "needs 0 1; needs 1 0; permit 0;");
        due("59 none", x.luck(0, 20), 0);
        due("60 none", x.worth(0, 20, 0), -1);
        due("60 none", x.worth(0, 20, 1), -1);
        due("59 no office", new StampOrder().luck(0, 1), -2);
        due("60 no office", new StampOrder().worth(0, 1, 0), -2);
    }

    // 61
    private static void ask() {
        StampOrder x = free(3, "needs 0 1; permit 0;");
        due("36 before", x.ways(), 3);
        due("61 it was", x.ask(0, 1, 0, 0), 1);
        due("36 after", x.ways(), 5);
        due("61 it was not", x.ask(0, 1, 0, 0), 0);
        due("61 bars", x.ask(2, 0, 1, 1), 0);
        due("61 bars again", x.ask(2, 0, 1, 1), 1);
        due("7 asks", x.asks(2, 1), 1);
        due("7 asks", x.asks(0, 0), 0);
        due("2 count", x.count(3), 1);
        due("39 before", x.start(0), 0);
        due("39 before", x.start(1), 1);
        due("61 never", x.ask(0, 2, 0, 1), 0);
        due("61 never", x.ask(2, 0, 0, 1), 0);
        due("39 after", x.start(0), -1);
        due("39 after", x.start(1), -1);
        due("61 one twice", x.ask(0, 0, 0, 1), -2);
        for (int bad : new int[] {-1, 3}) {
            due("61 no such", x.ask(bad, 0, 0, 1), -2);
            due("61 no such other", x.ask(0, bad, 0, 1), -2);
        }
        for (int bad : new int[] {-1, 2}) {
            due("61 no such what", x.ask(0, 1, bad, 1), -2);
            due("61 no such is", x.ask(0, 1, 0, bad), -2);
        }
        x.waits(1);
        due("61 waited", x.ask(0, 1, 0, 1), -5);
        x.anew();
        due("61 as it was", x.asks(0, 0), 4);
        due("61 anew", x.ask(0, 1, 0, 1), 0);
    }

    // 62
    private static void leave() {
        StampOrder x = free(1, "permit 0; leave 0 from 2 to 3;");
        due("62 leave", x.leave(0, 0, 4), 0);
        due("6 from", x.official(0, 7), 0);
        due("6 to", x.official(0, 8), 4);
        due("18 when", x.when(0), 50);
        due("29 soonest", x.soonest(), 51);
        due("62 never", x.leave(0, -1, -1), 0);
        due("6 never", x.official(0, 7), -1);
        due("18 at once", x.when(0), 0);
        due("62 the last day", x.leave(0, 39, 39), 0);
        due("9 the last day", x.open(0, 390), 0);
        due("62 earlier", x.leave(0, 5, 4), -2);
        due("62 no such day", x.leave(0, 39, 40), -2);
        due("62 one alone", x.leave(0, -1, 3), -2);
        due("62 the other alone", x.leave(0, 3, -1), -2);
        due("62 below", x.leave(0, -2, -2), -2);
        due("62 no such", x.leave(1, 0, 0), -2);
        due("62 official below", x.leave(-1, 0, 0), -2);
        due("6 stays", x.official(0, 7), 39);
        x.go(0);
        due("62 gone to", x.leave(0, 0, 0), -5);
        due("6 stays", x.official(0, 7), 39);
    }

    // 63
    private static void wants() {
        StampOrder x = free(3, "permit 0 1;");
        due("36 before", x.ways(), 2 + 4);
        x.go(0);
        due("63 it was", x.wants(1), 3);
        due("13 permit", x.permit(), 1);
        due("28 done", x.done(), 1);
        due("29 soonest", x.soonest(), 1);
        due("63 all", x.wants(7), 1);
        due("29 soonest", x.soonest(), 3);
        due("63 no such", x.wants(8), -2);
        due("63 below", x.wants(-1), -2);
        due("63 nobody", x.wants(0), 7);
        due("63 no office", new StampOrder().wants(0), -2);
    }

    // 64
    private static void count() {
        StampOrder x = Check.told(THREE + "needs 2 0;");
        Check.type(x, "abc");
        x.go(0);
        x.waits(3);
        x.row(3, 1, 0);
        x.row(0, 1, 5);
        x.row(0, 0, 5);
        int[] want = {3, 3, 2, 1, 11, 3, 2, 0, 2};
        for (int what = 0; what < want.length; what++) {
            due("64 count(" + what + ")", x.count(what), want[what]);
        }
        due("64 others", x.count(9), -1);
        due("64 below", x.count(-1), -1);
        due("64 start", Check.told("office rooms 1 in 0 at 123;").count(7), 123);
    }

    // 65, 66
    private static void images() {
        StampOrder x = Check.told(THREE);
        due("65 keep", x.keep(0), 0);
        x.go(0);
        x.waits(2);
        x.wants(4);
        due("65 keep", x.keep(2), 0);
        x.anew();
        x.ask(1, 0, 0, 0);
        x.leave(0, 0, 39);
        due("66 back", x.back(2), 0);
        due("14 now", x.now(), 3);
        due("64 gone to", x.count(6), 2);
        due("25 led", x.led(1), 12);
        due("13 permit", x.permit(), 4);
        due("7 asks", x.asks(1, 0), 1);
        due("9 open", x.open(0, 0), 1);
        due("23 undo", x.undo(), 1);
        due("14 now", x.now(), 1);
        due("16 held", x.held(), 1);
        Check.type(x, "office rooms 1 in 0 at 9;");
        x.office();
        due("66 back", x.back(0), 0);
        due("64 lines", x.count(4), 10);
        due("14 now", x.now(), 0);
        due("29 soonest", x.soonest(), 5);
        due("12 walk", x.walk(0, 2), 5);
        due("66 again", x.back(2), 0);
        due("14 as it was kept", x.now(), 3);
        due("66 nothing", x.back(1), -6);
        due("66 no such", x.back(3), -2);
        due("66 below", x.back(-1), -2);
        due("65 no such", x.keep(3), -2);
        due("65 below", x.keep(-1), -2);
        Check.lay(x, 0, 0);
        x.keep(1);
        Check.lay(x, 0, 1, 2);
        Check.type(x, "abc");
        x.back(1);
        due("66 the tape stays", x.count(5), 3);
        due("66 the slots stay", x.judge(0), 0);
        StampOrder none = new StampOrder();
        due("65 no office", none.keep(0), 0);
        Check.type(none, "office rooms 1 in 0 at 9;");
        none.office();
        due("66 no office", none.back(0), 0);
        due("66 none is there", none.now(), -2);
    }

    // 67, 68
    private static void rowAndWrite() {
        StampOrder x = free(2, "");
        due("67 row", x.row(0, 0, 60), 0);
        due("68 last", x.write(0, 59, 1), 0);
        due("68 beyond", x.write(0, 60, 1), -7);
        due("68 below", x.write(0, -1, 1), -7);
        due("53 written", x.run(0), -1);
        due("67 too many", x.row(0, 0, 61), -2);
        due("67 below", x.row(0, 0, -1), -3);
        due("67 no width", x.row(0, 4, 1), -2);
        due("67 width below", x.row(0, -1, 1), -2);
        due("67 no slot", x.row(4, 0, 1), -2);
        due("67 slot below", x.row(-1, 0, 1), -2);
        due("67 no slot first", x.row(4, 0, -1), -2);
        due("67 stays", x.write(0, 59, 0), 0);
        due("68 no slot", x.write(4, 0, 0), -2);
        due("68 slot below", x.write(-1, 0, 0), -2);
        due("68 nothing", x.write(1, 0, 0), -6);
        x.row(0, 3, 1);
        x.write(0, 0, 1);
        x.row(0, 3, 2);
        x.write(0, 1, 1);
        due("67 all 0", x.judge(0), 2);
        long[] ones = {(1L << 8) + 1, (1L << 16) + 1, (1L << 32) + 1};
        for (int width = 0; width < 4; width++) {
            for (int i = 0; i < 3; i++) {
                x.row(1, width, 1);
                x.write(1, 0, ones[i]);
                due("68 cut to width " + width, x.judge(1), i >= width ? 1 : -2);
            }
            x.write(1, 0, -1);
            due("68 all bits, width " + width, x.judge(1), -2);
            x.write(1, 0, Long.MIN_VALUE);
            due("68 the highest, width " + width, x.judge(1), width < 3 ? 1 : -2);
        }
        due("67 another", x.row(1, 2, 0), 0);
        due("68 none", x.write(1, 0, 0), -7);
    }

    // 69
    private static void paste() {
        StampOrder x = free(8, "");
        Check.lay(x, 0, 0, 1, 2, 3, 4);
        Check.lay(x, 1, 7, 7, 7);
        due("69 paste", x.paste(0, 1, 1, 0, 3), 0);
        due("51 1, 2, 3", x.judge(1), 3);
        due("52 1, 2, 3", x.bribed(1), 0);
        due("69 its own", x.paste(0, 0, 0, 1, 4), 0);
        // 0, 0, 1, 2, 3
        due("51 as they were", x.judge(0), 1);
        due("52 as they were", x.bribed(0), 1);
        due("69 back", x.paste(0, 1, 0, 0, 4), 0);
        // 0, 1, 2, 3, 3
        due("51 as they were", x.judge(0), 4);
        due("52 as they were", x.bribed(0), 8);
        due("69 none", x.paste(0, 5, 1, 3, 0), 0);
        due("69 none, above", x.paste(0, 6, 1, 3, 0), -7);
        due("69 none, above there", x.paste(0, 5, 1, 4, 0), -7);
        due("69 too many", x.paste(0, 2, 1, 0, 4), -7);
        due("69 beyond", x.paste(0, 3, 1, 0, 3), -7);
        due("69 beyond there", x.paste(0, 0, 1, 1, 3), -7);
        due("69 place below", x.paste(0, -1, 1, 0, 1), -7);
        due("69 place below there", x.paste(0, 0, 1, -1, 1), -7);
        due("69 n below", x.paste(0, 0, 1, 0, -1), -7);
        due("69 far", x.paste(0, Integer.MAX_VALUE, 1, 0, Integer.MAX_VALUE), -7);
        due("69 many", x.paste(0, 1, 1, 1, Integer.MAX_VALUE), -7);
        due("51 nothing happened", x.judge(1), 3);
        due("69 no slot", x.paste(4, 0, 1, 0, 0), -2);
        due("69 no other", x.paste(0, 0, 4, 0, 0), -2);
        due("69 below", x.paste(-1, 0, 0, 0, 0), -2);
        due("69 nothing", x.paste(2, 0, 1, 0, 0), -6);
        due("69 nothing there", x.paste(0, 0, 2, 0, 0), -6);
        x.row(2, 1, 3);
        due("69 other widths", x.paste(0, 0, 2, 0, 1), -8);
        due("69 widths first", x.paste(0, 9, 2, 0, 1), -8);
    }

    /** Every call that asks for an OFFICE, without one. */
    private static void refusals() {
        StampOrder x = new StampOrder();
        Check.lay(x, 0, 0);
        long[] answers = {
            x.official(0, 0), x.asks(0, 0), x.asked(0, 0), x.open(0, 0), x.opens(0, 0), x.week(0), x.walk(0, 0),
            x.permit(), x.now(), x.room(), x.held(), x.until(0), x.when(0), x.why(0), x.can(), x.go(0), x.waits(1),
            x.undo(), x.anew(), x.led(0), x.shoes(), x.paid(), x.done(), x.soonest(), x.step(0), x.fewest(),
            x.least(), x.tread(0), x.cheapest(), x.whom(), x.ways(), x.always(0), x.slack(0), x.start(0), x.fake(),
            x.possible(0), x.sets(), x.never(), x.ring(), x.depth(0), x.orders(0), x.loose(), x.loosely(0),
            x.parted(), x.judge(0), x.bribed(0), x.run(0), x.queue(0, 1), x.served(0, 0), x.chair(0), x.blind(0),
            x.tries(0), x.luck(0, 1), x.worth(0, 1, 0), x.ask(0, 1, 0, 1), x.leave(0, 0, 0), x.wants(0),
        };
        for (int i = 0; i < answers.length; i++) {
            due("without an OFFICE, call " + i, answers[i], -2);
        }
        due("40 no office", x.forged(0), -2000);
    }
}
