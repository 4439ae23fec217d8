/** The edges of sets, orders, queues and blind goes, sentence by sentence: Terms IV to VI, promises 42 to 60. */
public final class BoundaryOrdersTest {
    private static final Sentences S = new Sentences("BoundaryOrdersTest");
    private static final String FREE = "official room 0 from 0 to 9 days 31;";
    private static final String FADING = "official room 0 from 0 to 9 days 31 fades 1;";
    private static final StampOrder NO_OFFICE = withRow(new StampOrder());

    public static void main(String[] args) {
        needsAndBarsAlone();
        dropped();
        oneInAnHour();
        draws();
        blindly();
        fractions();
        possible();
        setsAndNever();
        ringAndDepth();
        orders();
        looseAndLoosely();
        parted();
        judge();
        bribed();
        run();
        queue();
        served();
        chair();
        blind();
        tries();
        luck();
        worth();
        S.close();
    }

    private static StampOrder at(int hour, String more) {
        return Check.told("office rooms 1 in 0 at " + hour + ";" + more);
    }

    private static StampOrder free(int officials, String more) {
        return at(0, FREE.repeat(officials) + more);
    }

    private static StampOrder withRow(StampOrder x, int... numbers) {
        Check.lay(x, 0, numbers);
        return x;
    }

    // ---- Terms IV

    private static void needsAndBarsAlone() {
        S.term("IV");
        S.says("By NEEDS and BARS alone, no hours, nothing FADES");
        // 0 opens never and FADES, 1 is beyond any way
        StampOrder x = Check.told("office rooms 2 in 0 at 399; official room 0 from 0 to 0 days 1 lunch 0 fades 1;"
                + "official room 1 from 0 to 9 days 31; bars 1 0; needs 0 1; permit 0 1;");
        S.due("possible(3)", x.possible(3), 1);
        S.due("sets()", x.sets(), 3);
        S.due("loose()", x.loose(), 0);
        S.due("judge", withRow(x, 1, 0).judge(0), 2);
        S.due("judge, barred for ever", withRow(x, 0, 1).judge(0), 0);
        S.says("one by one an OFFICIAL stamps, if all that it NEEDS did ahead, and none that it BARS.");
        x = free(4, "needs 2 0; needs 2 1; bars 3 0; bars 3 1;");
        S.due("one of two that are NEEDED", x.possible(5), 0);
        S.due("the other one", x.possible(6), 0);
        S.due("both", x.possible(7), 1);
        S.due("orders(7)", x.orders(7), 2);
        S.due("BARS one that stamps behind it", x.possible(9), 1);
        S.due("orders(11)", x.orders(11), 2);
        S.due("orders(15)", x.orders(15), 2);
        S.says("PERMIT can be had: some set that can have stamped has all of it.");
        x = free(3, "bars 0 1; bars 1 0; permit 0 1;");
        S.due("loose(), either alone", x.loose(), 1);
        S.due("parted(), either alone", x.parted(), 101);
        x.wants(5);
        S.due("loose(), a set that has more", x.loose(), 0);
        S.due("parted(), a set that has more", x.parted(), -1);
    }

    private static void order(String of, StampOrder x, int... officials) {
        for (int i = 0; i < officials.length; i++) {
            S.due("loosely(" + i + ") " + of, x.loosely(i), officials[i]);
        }
        S.due("loosely(" + officials.length + ") " + of, x.loosely(officials.length), -1);
    }

    private static void dropped() {
        S.says("LOOSE: OFFICIALS stamp one by one, till all of the PERMIT did; each costs as many as it NEEDS that did not"
                + " and BARS that did; fewest, then the shorter order, then the least.");
        StampOrder x = free(4, "needs 1 0; needs 1 2; bars 1 3; permit 1 3;");
        S.due("loose() of none", x.loose(), 0);
        order("of none", x, 0, 2, 1, 3);
        x = free(3, "needs 2 0; needs 2 1; needs 0 2; needs 1 2; permit 2;");
        // 2 alone costs two; 0, 1, 2 two, 0, 2 two
        S.due("loose() of two", x.loose(), 2);
        order("the shorter one", x, 2);
        x = free(3, "needs 2 0; needs 2 1; needs 0 1; needs 1 0; permit 2;");
        // 0, 1, 2 costs one
        S.due("loose(), fewest ahead of shorter", x.loose(), 1);
        order("the least one", x, 0, 1, 2);
        x = free(3, "bars 1 0; bars 2 0; bars 2 1; bars 0 1; bars 0 2; permit 0 1 2;");
        // 2, 1, 0 costs two; 1, 2, 0 three; 0, 2, 1 two; 0, 1, 2 three; 1, 0, 2 three; 2, 0, 1 two
        S.due("loose() of BARS", x.loose(), 2);
        order("the least of like ones", x, 0, 2, 1);
        x = free(2, "needs 0 1; bars 0 1; permit 0;");
        S.due("loose() of NEEDS and BARS of the same two", x.loose(), 1);
        order("the shorter one", x, 0);
    }

    // ---- Terms V

    private static void oneInAnHour() {
        S.term("V");
        S.says("QUEUE: n go by a row from the start, one behind the other by numbers: each as if alone, but that an OFFICIAL"
                + " stamps one in an HOUR: HOURS taken by those ahead are not OPEN to it.");
        StampOrder x = withRow(at(4, FREE + FREE), 0, 1);
        x.go(0);
        x.waits(50);
        S.due("queue of one, from the start", x.queue(0, 1), 6);
        S.due("queue of two", x.queue(0, 2), 7);
        S.due("queue of nine", x.queue(0, 9), 14);
        // 1 stamps one a DAY
        x = withRow(at(0, FREE + "official room 0 from 5 to 6 days 31 lunch 6;"), 0, 1);
        S.due("the second one waits a DAY", x.queue(0, 2), 16);
        S.due("as if alone", x.run(0), 6);
        // 1 NEEDS one's own STAMP of 0, not those that the others have
        x = withRow(at(0, FADING + "official room 0 from 0 to 1 days 2; needs 1 0;"), 0, 1);
        S.due("the first: 0 at 0, 1 at 10", x.queue(0, 1), 11);
        S.due("the second: 0 at 1, 1 at 11", x.queue(0, 2), 12);
        S.due("the third: 0 at 2, 1 never", x.queue(0, 3), -1);
        // 0 at 0 or 1 has faded when 1 opens, at 12; the third has 0 at 2
        x = withRow(at(0, FADING + "official room 0 from 2 to 2 days 2; needs 1 0;"), 0, 1);
        S.due("who stamped one who is never through has taken HOURS", x.served(0, 400), 1);
        S.due("the third alone is not yet through", x.served(0, 12), 0);
        S.due("the third alone is through", x.served(0, 13), 1);
        // by 0, 1, 0: the 2nd has 0 at 21, 1 at 50, 0 at 51; the 3rd at 22, 51, 52: so the 6th has 0 at 53, not 51
        x = withRow(at(4, "official room 0 from 0 to 3 days 5 fades 2; official room 0 from 0 to 1 days 7;"), 0, 1, 0);
        S.due("two OFFICIALS, taken in one HOUR", x.served(0, 400), 6);
        S.due("one has 0 still when he is back", x.queue(0, 1), -1);
    }

    // ---- Terms VI

    private static void inOrder(StampOrder x, int seed, int... officials) {
        for (int i = 0; i < officials.length; i++) {
            x.wants(1 << officials[i]);
            S.due("tries(" + seed + ") till " + officials[i], x.tries(seed), i + 1);
            S.due("blind(" + seed + ") till " + officials[i], x.blind(seed), i + 1);
        }
    }

    private static void draws() {
        S.term("VI");
        S.says("DRAWS: x becomes (1103515245 x + 12345) modulo 2,147,483,648 (at first it is the seed); a draw of n: x / 65536,"
                + " cut, modulo n.");
        StampOrder x = free(8, "");
        inOrder(x, 0, 0, 7, 5, 3, 4, 2, 6, 1);
        inOrder(x, 1, 6, 4, 3, 0, 7, 5, 1, 2);
        inOrder(x, 2, 4, 5, 3, 7, 1, 6, 0, 2);
        inOrder(x, 2000000000, 0, 1, 7, 4, 5, 2, 6, 3);
        // of seed 2 the first draw of two is 0, the second 1: one is drawn of the one that would stamp first
        x = free(3, "needs 1 0; needs 2 0; permit 2;");
        S.due("tries(2), a draw of one first", x.tries(2), 2);
        S.due("blind(2), a draw of one first", x.blind(2), 2);
    }

    private static void blindly() {
        S.says("BLIND: till DONE, of the OFFICIALS that would stamp, gone to now, and were not gone to in it, nor held at first,"
                + " by numbers, the one that a draw of as many tells; till there is none.");
        StampOrder x = free(3, "permit 0;");
        x.go(0);
        S.due("tries(0), DONE", x.tries(0), 0);
        S.due("blind(0), DONE", x.blind(0), 1);
        // 0 FADES; 1 stamps at 15, when 0 would stamp again
        String late = "official room 0 from 5 to 5 days 2;";
        x = at(0, FADING + late + "needs 1 0; permit 0 1;");
        S.due("tries(0), till there is none", x.tries(0), 1);
        S.due("blind(0), till there is none", x.blind(0), -1);
        x = at(0, FADING + late + FREE + "permit 0 1; bars 0 2; bars 1 2;");
        x.go(0);
        // 0 is held at first, and would stamp again at 16, but is not gone to
        x.wants(3);
        S.due("blind(0), held at first", x.blind(0), -1);
        x.waits(10);
        // of seed 0 the draw of three is 0, of two 0 again: 0 at 11, 1 at 15
        S.due("blind(0), faded before", x.blind(0), 16);
        S.due("tries(0), faded before", x.tries(0), 2);
        // 0 FADES ahead of 15, and would stamp anew; 2 opens never
        x = at(0, FADING + late + "official room 0 from 0 to 0 days 1 lunch 0; permit 2;");
        for (int seed = 0; seed < 4; seed++) {
            S.due("tries(" + seed + "), none twice", x.tries(seed), 2);
            S.due("blind(" + seed + "), none twice", x.blind(seed), -1);
        }
        x = free(4, "needs 1 3; permit 3 2;");
        // of seed 1: of 0, 2, 3 (16838 modulo 3) the last, of 0, 1, 2 (5758 modulo 3) 1, of 0, 2 (10113 modulo 2) 2
        S.due("tries(1), by numbers", x.tries(1), 3);
        x.wants(10);
        S.due("tries(1), 3 and 1", x.tries(1), 2);
        x.wants(8);
        S.due("tries(1), 3", x.tries(1), 1);
    }

    private static void fractions() {
        S.says("FRACTIONS are told in lowest terms (0 / 1).");
        StampOrder x = free(8, "permit 7;");
        S.due("worth(0, 4, 0) of 14 / 4", x.worth(0, 4, 0), 7);
        S.due("worth(0, 4, 1) of 14 / 4", x.worth(0, 4, 1), 2);
        S.due("worth(0, 6, 0) of 18 / 6", x.worth(0, 6, 0), 3);
        S.due("worth(0, 6, 1) of 18 / 6", x.worth(0, 6, 1), 1);
        S.due("worth(0, 3, 0) of 8 / 3", x.worth(0, 3, 0), 8);
        S.due("worth(0, 3, 1) of 8 / 3", x.worth(0, 3, 1), 3);
        x.wants(0);
        S.due("worth(0, 20, 0) of 0 / 20", x.worth(0, 20, 0), 0);
        S.due("worth(0, 20, 1) of 0 / 20", x.worth(0, 20, 1), 1);
    }

    // ---- sets

    private static void possible() {
        S.promise(42);
        S.says("whether OFFICIALS of a set can have stamped, in some order, and no others: 1, 0.");
        StampOrder x = free(3, "needs 0 1; bars 2 1;");
        S.due("possible(0), nobody", x.possible(0), 1);
        S.due("possible(1), by another alone", x.possible(1), 0);
        S.due("possible(3)", x.possible(3), 1);
        S.due("possible(6), in one order", x.possible(6), 1);
        S.due("possible(7), all", x.possible(7), 1);
        x.go(1);
        S.due("possible(1), whoever was gone to", x.possible(1), 0);
        S.says("-2: there is no such set, no OFFICE.");
        S.due("possible(8)", x.possible(8), -2);
        S.due("possible(-1)", x.possible(-1), -2);
        S.due("possible(MIN)", x.possible(Integer.MIN_VALUE), -2);
        S.due("possible(255) of eight", free(8, "").possible(255), 1);
        S.due("possible(256) of eight", free(8, "").possible(256), -2);
        S.due("possible(0) of no OFFICIALS", at(0, "").possible(0), 1);
        S.due("possible(1) of no OFFICIALS", at(0, "").possible(1), -2);
        S.due("possible(0) without an OFFICE", NO_OFFICE.possible(0), -2);
    }

    private static void setsAndNever() {
        S.promise(43);
        S.says("How many such sets there are. -2: there is no OFFICE.");
        S.due("sets() of eight", free(8, "").sets(), 256);
        S.due("sets() of no OFFICIALS", at(0, "").sets(), 1);
        S.due("sets(), nobody can", free(2, "needs 0 1; needs 1 0;").sets(), 1);
        S.due("sets() without an OFFICE", NO_OFFICE.sets(), -2);
        S.promise(44);
        S.says("OFFICIALS that are in none, as bits. -2 likewise.");
        S.due("never(), nobody", free(8, "").never(), 0);
        S.due("never(), in unlike sets", free(3, "bars 0 1; bars 1 0; bars 2 1; bars 1 2;").never(), 0);
        S.due("never(), all", free(2, "needs 0 1; needs 1 0;").never(), 3);
        S.due("never(), the last", free(8, "needs 7 0; bars 7 0;").never(), 128);
        S.due("never(), behind one that is", free(3, "needs 0 1; bars 0 1; needs 2 0;").never(), 5);
        S.due("never() of no OFFICIALS", at(0, "").never(), 0);
        S.due("never() without an OFFICE", NO_OFFICE.never(), -2);
    }

    private static void ringAndDepth() {
        S.promise(45);
        S.says("OFFICIALS that NEED one another round, as bits. -2 likewise.");
        String round = "needs 0 1; needs 1 2; needs 2 3; needs 3 4; needs 4 5; needs 5 6; needs 6 7;";
        S.due("ring() of a chain", free(8, round).ring(), 0);
        S.due("ring() of all", free(8, round + "needs 7 0;").ring(), 255);
        S.due("ring() of two, in a chain", free(8, round + "needs 4 3;").ring(), 24);
        S.due("ring() of BARS", free(2, "needs 0 1; bars 1 0;").ring(), 0);
        S.due("ring() of no OFFICIALS", at(0, "").ring(), 0);
        S.due("ring() without an OFFICE", NO_OFFICE.ring(), -2);
        S.promise(46);
        S.says("how many OFFICIALS the longest chain of NEEDS to one has (1: it NEEDS none).");
        StampOrder x = free(8, round + "needs 0 7; needs 2 7;");
        S.due("depth(0)", x.depth(0), 8);
        S.due("depth(7)", x.depth(7), 1);
        S.due("depth(6)", x.depth(6), 2);
        S.due("depth(2)", x.depth(2), 6);
        S.due("depth(0), the other way round", free(3, "needs 1 0; needs 2 1; needs 2 0;").depth(2), 3);
        S.says("NONE: there is a round in what it NEEDS; -2: there is none such.");
        x = free(5, "needs 0 1; needs 1 2; needs 2 1; needs 2 3; bars 3 4; needs 3 4; bars 4 3;");
        S.due("depth(1), in it", x.depth(1), -1);
        S.due("depth(0), behind it", x.depth(0), -1);
        S.due("depth(3), ahead of it", x.depth(3), 2);
        S.due("depth(0), beside it", free(3, "needs 1 2; needs 2 1;").depth(0), 1);
        S.due("depth(2), beside it", free(3, "needs 0 1; needs 1 0;").depth(2), 1);
        S.due("depth(5)", x.depth(5), -2);
        S.due("depth(-1)", x.depth(-1), -2);
        S.due("depth(0) without an OFFICE", NO_OFFICE.depth(0), -2);
    }

    private static void orders() {
        S.promise(47);
        S.says("In how many orders a set can have stamped. -2: there is no such set, no OFFICE.");
        StampOrder x = free(8, "");
        S.due("orders(0)", x.orders(0), 1);
        S.due("orders(128)", x.orders(128), 1);
        S.due("orders(255)", x.orders(255), 40320);
        S.due("orders(256)", x.orders(256), -2);
        S.due("orders(-1)", x.orders(-1), -2);
        S.due("orders(1), by another alone", free(2, "needs 0 1;").orders(1), 0);
        S.due("orders(0) of no OFFICIALS", at(0, "").orders(0), 1);
        S.due("orders(1) of no OFFICIALS", at(0, "").orders(1), -2);
        S.due("orders(0) without an OFFICE", NO_OFFICE.orders(0), -2);
    }

    private static void looseAndLoosely() {
        S.promise(48);
        S.says("the fewest NEEDS and BARS that are to be dropped so that the PERMIT can be had. -2: there is no OFFICE.");
        S.due("loose(), it can", free(8, "permit 0 1 2 3 4 5 6 7;").loose(), 0);
        S.due("loose(), nobody", free(2, "needs 0 1; needs 1 0;").loose(), 0);
        S.due("loose(), a round", free(2, "needs 0 1; needs 1 0; permit 1;").loose(), 1);
        // all BAR one another: each pair costs one
        StringBuilder all = new StringBuilder("permit 0 1 2 3 4 5 6 7;");
        for (int i = 0; i < 8; i++) {
            for (int j = 0; j < 8; j++) {
                all.append(i == j ? "" : "bars " + i + " " + j + ";");
            }
        }
        S.due("loose(), all BAR all", free(8, all.toString()).loose(), 28);
        S.due("loose() without an OFFICE", NO_OFFICE.loose(), -2);
        S.promise(49);
        S.says("The i-th OFFICIAL (from 0) of the first order by which so few are. NONE: there is none such; -2 likewise.");
        StampOrder x = free(8, "permit 7 6 5 4 3 2 1 0; needs 0 7; bars 6 7;");
        order("of eight", x, 1, 2, 3, 4, 5, 6, 7, 0);
        S.due("loosely(-1)", x.loosely(-1), -1);
        S.due("loosely(MAX)", x.loosely(Integer.MAX_VALUE), -1);
        x = free(3, "permit 0 1 2;");
        order("of all", x, 0, 1, 2);
        x.wants(4);
        order("of one, after all", x, 2);
        x = free(3, "needs 0 1; needs 1 2; needs 2 0; needs 1 0; permit 1;");
        S.due("loose(), ahead of another OFFICE", x.loose(), 1);
        x.wants(4);
        S.due("loose(), ahead of another OFFICE", x.loose(), 1);
        Check.type(x, "office rooms 1 in 0 at 0;" + FREE.repeat(2) + "permit 0 1;");
        x.office();
        order("of another OFFICE", x, 0, 1);
        order("of nobody", free(2, ""));
        order("of no OFFICIALS", at(0, ""));
        S.due("loosely(0) without an OFFICE", NO_OFFICE.loosely(0), -2);
    }

    private static void parted() {
        S.promise(50);
        S.says("the first NEEDS or BARS without which alone the PERMIT can be had (100 times what 0 or 1, 10 times who asks,"
                + " and whom).");
        S.due("parted(), NEEDS first", free(8, "needs 7 6; bars 7 6; permit 7;").parted(), 76);
        S.due("parted(), BARS alone", free(8, "bars 7 6; bars 6 7; permit 6 7;").parted(), 167);
        S.due("parted(), the highest", free(8, "bars 7 6; bars 6 7; needs 7 6; permit 6 7;").parted(), 176);
        S.due("parted(), who asks first", free(3, "needs 1 2; needs 2 1; permit 1;").parted(), 12);
        S.due("parted(), whom first", free(3, "needs 2 0; needs 0 2; permit 2;").parted(), 2);
        S.due("parted(), the first of a round", free(3, "needs 2 1; needs 1 0; needs 0 2; permit 2;").parted(), 2);
        S.due("parted(), BARS by 0", free(2, "bars 0 1; bars 1 0; permit 0 1;").parted(), 101);
        S.due("parted(), NEEDED by 7", free(8, "needs 7 0; bars 7 0; permit 7;").parted(), 70);
        S.says("NONE: none does, it can be had anyway; -2 likewise.");
        S.due("parted(), two rounds", free(4, "needs 0 1; needs 1 0; needs 2 3; needs 3 2; permit 0 2;").parted(), -1);
        S.due("parted(), anyway", free(2, "needs 0 1; permit 0;").parted(), -1);
        S.due("parted(), nobody", free(2, "needs 0 1; needs 1 0;").parted(), -1);
        S.due("parted() without an OFFICE", NO_OFFICE.parted(), -2);
    }

    // ---- a SLOT's row

    /** What judge() and those behind it refuse: the SLOT, no OFFICE, a number, nothing. */
    private interface Asked {
        int of(StampOrder x, int slot);
    }

    private static void refusals(String call, Asked asked) {
        StampOrder x = withRow(free(2, ""), 0, 1);
        S.due(call + " of SLOT -1", asked.of(x, -1), -2);
        S.due(call + " of SLOT 4", asked.of(x, 4), -2);
        S.due(call + " of nothing", asked.of(x, 3), -6);
        S.due(call + " of a row", asked.of(x, 0) > -2 ? 1 : 0, 1);
        S.due(call + " of a row with 2", asked.of(withRow(x, 0, 1, 2), 0), -2);
        S.due(call + " of a row with -1", asked.of(withRow(x, -1), 0), -2);
        S.due(call + " without an OFFICE", asked.of(NO_OFFICE, 0), -2);
        S.due(call + " of nothing without an OFFICE", asked.of(NO_OFFICE, 1), -2);
        x.row(2, 3, 1);
        x.write(2, 0, 1L << 32);
        S.due(call + " of a long number", asked.of(x, 2), -2);
        S.due(call + " of 0 and no OFFICIALS", asked.of(withRow(at(0, ""), 0), 0), -2);
    }

    private static void judge() {
        S.promise(51);
        S.says("how many ahead of the first that should not have stamped (held by then, NEEDS, BARS).");
        StampOrder x = free(4, "needs 1 0; bars 2 0;");
        S.due("judge, all", withRow(x, 2, 0, 1, 3).judge(0), 4);
        S.due("judge, none", withRow(x).judge(0), 0);
        S.due("judge, NEEDS", withRow(x, 3, 1, 0).judge(0), 1);
        S.due("judge, BARS", withRow(x, 3, 0, 2).judge(0), 2);
        S.due("judge, held by then", withRow(x, 3, 0, 1, 3).judge(0), 3);
        S.due("judge, the first", withRow(x, 1, 0).judge(0), 0);
        int[] long1 = new int[60];
        long1[0] = 3;
        S.due("judge of sixty", withRow(x, long1).judge(0), 2);
        S.says("-2: there is no such SLOT, no OFFICE, a number is none (asked last); -6: it has nothing.");
        refusals("judge", StampOrder::judge);
        S.due("judge of a number that is none, behind one that should not", withRow(x, 1, 9).judge(0), -2);
    }

    private static void bribed() {
        S.promise(52);
        S.says("OFFICIALS of the row that should not have stamped, all being held once they did, as bits (one that stamps again,"
                + " too).");
        StampOrder x = free(8, "needs 1 0; bars 2 0; needs 7 1; needs 6 5;");
        S.due("bribed, nobody", withRow(x, 2, 0, 1, 7).bribed(0), 0);
        S.due("bribed of none", withRow(x).bribed(0), 0);
        S.due("bribed, held once it did", withRow(x, 1, 7).bribed(0), 2);
        S.due("bribed, NEEDS and BARS", withRow(x, 6, 0, 2).bribed(0), 68);
        S.due("bribed, again", withRow(x, 3, 4, 3).bribed(0), 8);
        S.due("bribed, the last", withRow(x, 7).bribed(0), 128);
        S.says("-2, -6 likewise.");
        refusals("bribed", StampOrder::bribed);
    }

    private static void run() {
        S.promise(53);
        S.says("the HOUR in which a row is through, gone so from the start. NONE: one never stamps; -2, -6 likewise.");
        StampOrder x = at(398, FREE + FREE + FREE);
        S.due("run of none", withRow(x).run(0), 398);
        S.due("run of one", withRow(x, 0).run(0), 399);
        S.due("run of two", withRow(x, 0, 1).run(0), 400);
        S.due("run of three", withRow(x, 0, 1, 2).run(0), -1);
        x.go(0);
        S.due("run from the start", withRow(x, 0, 1).run(0), 400);
        S.due("run, held", withRow(free(2, ""), 0, 0).run(0), -1);
        x = at(0, FADING + "official room 0 from 9 to 9 days 31;" + FREE);
        S.due("run, held in its last HOUR", withRow(x, 0, 1, 0).run(0), -1);
        x = at(0, FADING + "official room 0 from 0 to 0 days 30;" + FREE);
        S.due("run, faded, again", withRow(x, 0, 1, 0).run(0), 12);
        x = Check.told("office rooms 2 in 0 at 0;" + FREE + "official room 1 from 0 to 9 days 31; bars 1 0;");
        S.due("run, no way", withRow(x, 1).run(0), -1);
        S.due("run, no way, behind one", withRow(x, 0, 1).run(0), -1);
        refusals("run", StampOrder::run);
    }

    private static void queue() {
        S.promise(54);
        S.says("the HOUR in which the last of n (1 .. 9) who go by a row is through.");
        StampOrder x = withRow(at(391, FREE), 0);
        S.due("queue of 1", x.queue(0, 1), 392);
        S.due("queue of 9", x.queue(0, 9), 400);
        S.due("queue of none's row", withRow(x).queue(0, 9), 391);
        S.due("queue of none's row, the first HOUR", withRow(at(0, FREE)).queue(0, 9), 0);
        S.says("NONE: one never is; -2, -6 likewise, no such n.");
        x = withRow(at(392, FREE), 0);
        S.due("queue of 8", x.queue(0, 8), 400);
        S.due("queue of 9", x.queue(0, 9), -1);
        S.due("queue of 0", x.queue(0, 0), -2);
        S.due("queue of 10", x.queue(0, 10), -2);
        S.due("queue of -1", x.queue(0, -1), -2);
        refusals("queue of 1", (y, slot) -> y.queue(slot, 1));
        refusals("queue of 9", (y, slot) -> y.queue(slot, 9));
    }

    private static void served() {
        S.promise(55);
        S.says("How many of nine are through by an HOUR (0 .. 400). -2, -6 likewise, no such HOUR.");
        StampOrder x = withRow(at(391, FREE), 0);
        S.due("served by 391", x.served(0, 391), 0);
        S.due("served by 392", x.served(0, 392), 1);
        S.due("served by 399", x.served(0, 399), 8);
        S.due("served by 400", x.served(0, 400), 9);
        S.due("served by 401", x.served(0, 401), -2);
        S.due("served by -1", x.served(0, -1), -2);
        S.due("served by 400, one never", withRow(at(392, FREE), 0).served(0, 400), 8);
        S.due("served by 0, of none's row", withRow(at(0, FREE)).served(0, 0), 9);
        S.due("served by 0, later", withRow(at(1, FREE)).served(0, 0), 0);
        refusals("served by 0", (y, slot) -> y.served(slot, 0));
        refusals("served by 400", (y, slot) -> y.served(slot, 400));
    }

    private static void chair() {
        S.promise(56);
        S.says("The OFFICIAL of the row at whom all nine wait most HOURS (from when they are there till it stamps), together,"
                + " the least of several.");
        // 0 .. 8 HOURS at the first, none behind it, however far it is
        StampOrder x = Check.told("office rooms 2 in 0 at 0; way 0 1 9;" + FREE + "official room 1 from 0 to 9 days 31;");
        S.due("chair, a walk is no waiting", withRow(x, 0, 1).chair(0), 0);
        S.due("chair, a walk is no waiting", withRow(x, 1, 0).chair(0), 1);
        // nine from 5 on: 0 .. 8 HOURS at the one, 4 each at the other, which opens at 10: 36 at either
        x = at(5, FREE + FREE + "leave 1 from 0 to 0;");
        S.due("chair, the least of several", withRow(x, 0, 1).chair(0), 0);
        x = at(5, FREE + FREE + "leave 0 from 0 to 0;");
        S.due("chair, the least of several, gone to last", withRow(x, 1, 0).chair(0), 0);
        x = at(4, FREE + FREE + "leave 1 from 0 to 0;");
        S.due("chair, the most", withRow(x, 0, 1).chair(0), 1);
        S.due("chair of one", withRow(free(8, ""), 7).chair(0), 7);
        S.says("NONE: the row has none, one is never through; -2, -6 likewise.");
        S.due("chair, the row has none", withRow(x).chair(0), -1);
        S.due("chair, all through at 400", withRow(at(391, FREE), 0).chair(0), 0);
        S.due("chair, one is never through", withRow(at(392, FREE), 0).chair(0), -1);
        refusals("chair", StampOrder::chair);
    }

    // ---- blind goes

    private static void blind() {
        S.promise(57);
        S.says("BLIND (VI) from a seed (0 .. 2,000,000,000): the HOUR in which it is DONE. NONE: it is not; -2: there is no such"
                + " seed, no OFFICE.");
        StampOrder x = free(2, "permit 0; bars 0 1;");
        S.due("blind(0)", x.blind(0), 1);
        S.due("blind(3)", x.blind(3), -1);
        S.due("blind(2,000,000,000)", x.blind(2000000000), 1);
        S.due("blind(2,000,000,001)", x.blind(2000000001), -2);
        S.due("blind(-1)", x.blind(-1), -2);
        S.due("blind(0), the last HOUR", at(399, FREE + "permit 0;").blind(0), 400);
        S.due("blind(0) of nobody", at(399, "").blind(0), 399);
        S.due("blind(0) without an OFFICE", NO_OFFICE.blind(0), -2);
    }

    private static void tries() {
        S.promise(58);
        S.says("How many OFFICIALS one goes to so. -2 likewise.");
        StampOrder x = free(2, "permit 0; bars 0 1;");
        S.due("tries(0)", x.tries(0), 1);
        S.due("tries(3), not DONE", x.tries(3), 1);
        S.due("tries(2,000,000,000)", x.tries(2000000000), 1);
        S.due("tries(2,000,000,001)", x.tries(2000000001), -2);
        S.due("tries(-1)", x.tries(-1), -2);
        S.due("tries(0) of nobody", at(0, FREE).tries(0), 0);
        S.due("tries(0) without an OFFICE", NO_OFFICE.tries(0), -2);
    }

    private static void luck() {
        S.promise(59);
        S.says("Of n (1 .. 20) such from seeds, the seed and 1, .., in how many it is DONE. -2 likewise, no such n.");
        StampOrder x = free(2, "permit 0; bars 0 1;");
        // the first draws of two of seeds 0 .. 7: 0 0 0 1 1 1 0 0
        S.due("luck(0, 1)", x.luck(0, 1), 1);
        S.due("luck(0, 4)", x.luck(0, 4), 3);
        S.due("luck(0, 8)", x.luck(0, 8), 5);
        S.due("luck(3, 3), none", x.luck(3, 3), 0);
        S.due("luck(2,000,000,000, 20)", x.luck(2000000000, 20), 11);
        S.due("luck(0, 0)", x.luck(0, 0), -2);
        S.due("luck(0, 21)", x.luck(0, 21), -2);
        S.due("luck(0, -1)", x.luck(0, -1), -2);
        S.due("luck(-1, 20)", x.luck(-1, 20), -2);
        S.due("luck(2,000,000,001, 1)", x.luck(2000000001, 1), -2);
        S.due("luck(0, 20) of nobody", at(0, FREE).luck(0, 20), 20);
        S.due("luck(0, 1) without an OFFICE", NO_OFFICE.luck(0, 1), -2);
    }

    private static void worth() {
        S.promise(60);
        S.says("HOURS by which SOONEST is sooner than BLIND from n seeds in the mean, those alone that are DONE, above (what 0),"
                + " below (1).");
        StampOrder x = free(3, "permit 0; bars 0 1;");
        // of seeds 0 .. 11 DONE at 1, 2, -, -, 2, -, -, -, -, 1, -, 1
        int[][] due = {{0, 1, 0, 1}, {1, 1, 1, 1}, {0, 2, 1, 2}, {0, 4, 1, 2}, {0, 5, 2, 3}, {0, 12, 2, 5}, {2, 3, 1, 1}};
        for (int[] of : due) {
            S.due("worth(" + of[0] + ", " + of[1] + ", 0)", x.worth(of[0], of[1], 0), of[2]);
            S.due("worth(" + of[0] + ", " + of[1] + ", 1)", x.worth(of[0], of[1], 1), of[3]);
        }
        x.go(2);
        S.due("worth(0, 1, 0), from now on", x.worth(0, 1, 0), 0);
        x = free(8, "permit 7;");
        S.due("worth(2,000,000,000, 20, 0)", x.worth(2000000000, 20, 0), 18);
        S.due("worth(2,000,000,000, 20, 1)", x.worth(2000000000, 20, 1), 5);
        S.says("NONE: none is; -2: there are none such.");
        x = free(3, "permit 0; bars 0 1;");
        S.due("worth(2, 2, 0)", x.worth(2, 2, 0), -1);
        S.due("worth(2, 2, 1)", x.worth(2, 2, 1), -1);
        S.due("worth(0, 1, 2)", x.worth(0, 1, 2), -2);
        S.due("worth(0, 1, -1)", x.worth(0, 1, -1), -2);
        S.due("worth(0, 0, 0)", x.worth(0, 0, 0), -2);
        S.due("worth(0, 21, 0)", x.worth(0, 21, 0), -2);
        S.due("worth(-1, 1, 0)", x.worth(-1, 1, 0), -2);
        S.due("worth(2,000,000,001, 1, 0)", x.worth(2000000001, 1, 0), -2);
        S.due("worth(2, 2, 2), where none is", x.worth(2, 2, 2), -2);
        S.due("worth(0, 1, 0) without an OFFICE", NO_OFFICE.worth(0, 1, 0), -2);
    }
}
