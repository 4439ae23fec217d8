/** The edges of what is changed, counted, kept and laid into rows, sentence by sentence: promises 61 to 69. */
public final class BoundaryChangesTest {
    private static final Sentences S = new Sentences("BoundaryChangesTest");
    private static final String FREE = "official room 0 from 0 to 9 days 31;";

    public static void main(String[] args) {
        ask();
        leave();
        wants();
        count();
        keep();
        back();
        row();
        write();
        paste();
        S.close();
    }

    private static StampOrder free(int officials, String more) {
        return Check.told("office rooms 1 in 0 at 0;" + FREE.repeat(officials) + more);
    }

    private static void ask() {
        S.promise(61);
        S.says("An OFFICIAL NEEDS (what 0) or BARS (1) another one (1) or not (0) from now on: what it was.");
        StampOrder x = free(8, "needs 7 0; permit 7;");
        S.due("start(1)", x.start(1), 2);
        S.due("ask(7, 0, 0, 1), it did", x.ask(7, 0, 0, 1), 1);
        S.due("asks(7, 0)", x.asks(7, 0), 1);
        S.due("ask(7, 0, 0, 0)", x.ask(7, 0, 0, 0), 1);
        S.due("asks(7, 0)", x.asks(7, 0), 0);
        S.due("soonest()", x.soonest(), 1);
        S.due("start(1)", x.start(1), 1);
        S.due("depth(7)", x.depth(7), 1);
        S.due("ask(7, 0, 0, 0), it did not", x.ask(7, 0, 0, 0), 0);
        S.due("ask(0, 7, 1, 1)", x.ask(0, 7, 1, 1), 0);
        S.due("ask(0, 7, 1, 1), it did", x.ask(0, 7, 1, 1), 1);
        S.due("asks(0, 1)", x.asks(0, 1), 128);
        S.due("asks(7, 1)", x.asks(7, 1), 0);
        S.due("asks(0, 0)", x.asks(0, 0), 0);
        x.ask(0, 7, 0, 1);
        S.due("asks(0, 0), both", x.asks(0, 0), 128);
        S.due("never()", x.never(), 1);
        S.due("count(2)", x.count(2), 1);
        S.due("count(3)", x.count(3), 1);
        S.says("-5: one was gone to, waited; -2: there are none such, one twice.");
        S.due("ask(7, 7, 0, 1), one twice", x.ask(7, 7, 0, 1), -2);
        S.due("ask(8, 0, 0, 1)", x.ask(8, 0, 0, 1), -2);
        S.due("ask(-1, 0, 0, 1)", x.ask(-1, 0, 0, 1), -2);
        S.due("ask(0, 8, 0, 1)", x.ask(0, 8, 0, 1), -2);
        S.due("ask(0, -1, 0, 1)", x.ask(0, -1, 0, 1), -2);
        S.due("ask(0, 1, 2, 1)", x.ask(0, 1, 2, 1), -2);
        S.due("ask(0, 1, -1, 1)", x.ask(0, 1, -1, 1), -2);
        S.due("ask(0, 1, 0, 2)", x.ask(0, 1, 0, 2), -2);
        S.due("ask(0, 1, 0, -1)", x.ask(0, 1, 0, -1), -2);
        x.go(7);
        S.due("ask(0, 1, 0, 1), one was gone to", x.ask(0, 1, 0, 1), -5);
        S.due("asks(0, 0), as it was", x.asks(0, 0), 128);
        x.undo();
        x.waits(1);
        S.due("ask(0, 1, 0, 1), waited", x.ask(0, 1, 0, 1), -5);
        S.due("asks(0, 0), as it was", x.asks(0, 0), 128);
        x.anew();
        S.due("ask(0, 1, 0, 1), anew", x.ask(0, 1, 0, 1), 0);
        S.due("asks(0, 0)", x.asks(0, 0), 130);
        S.due("ask(0, 1, 0, 1) without an OFFICE", new StampOrder().ask(0, 1, 0, 1), -2);
    }

    private static void leave() {
        S.promise(62);
        S.says("An OFFICIAL is on leave from a DAY (0 .. 39) to another one (no earlier; both NONE: never). 0.");
        StampOrder x = free(2, "permit 0; leave 0 from 7 to 8;");
        S.due("start(1)", x.start(1), 1);
        S.due("leave(0, 0, 0)", x.leave(0, 0, 0), 0);
        S.due("open(0, 9)", x.open(0, 9), 0);
        S.due("open(0, 10)", x.open(0, 10), 1);
        S.due("open(0, 70), the later one strikes", x.open(0, 70), 1);
        S.due("open(1, 0)", x.open(1, 0), 1);
        S.due("opens(0, 0)", x.opens(0, 0), 10);
        S.due("soonest()", x.soonest(), 11);
        S.due("start(0)", x.start(0), 10);
        S.due("leave(0, 39, 39)", x.leave(0, 39, 39), 0);
        S.due("opens(0, 390)", x.opens(0, 390), -1);
        S.due("open(0, 389)", x.open(0, 389), 1);
        S.due("leave(0, 0, 39)", x.leave(0, 0, 39), 0);
        S.due("soonest(), never there", x.soonest(), -1);
        S.due("start(0), never there", x.start(0), -1);
        S.due("official(0, 7)", x.official(0, 7), 0);
        S.due("official(0, 8)", x.official(0, 8), 39);
        S.due("leave(0, -1, -1)", x.leave(0, -1, -1), 0);
        S.due("official(0, 7)", x.official(0, 7), -1);
        S.due("official(0, 8)", x.official(0, 8), -1);
        S.due("open(0, 0)", x.open(0, 0), 1);
        S.due("soonest()", x.soonest(), 1);
        S.says("-5 likewise; -2: there are none such.");
        x.leave(0, 5, 6);
        S.due("leave(0, 5, 4)", x.leave(0, 5, 4), -2);
        S.due("leave(0, 39, 40)", x.leave(0, 39, 40), -2);
        S.due("leave(0, 40, 40)", x.leave(0, 40, 40), -2);
        S.due("leave(0, -1, 0)", x.leave(0, -1, 0), -2);
        S.due("leave(0, 0, -1)", x.leave(0, 0, -1), -2);
        S.due("leave(0, -2, -1)", x.leave(0, -2, -1), -2);
        S.due("leave(0, -2, -2)", x.leave(0, -2, -2), -2);
        S.due("leave(2, 0, 0)", x.leave(2, 0, 0), -2);
        S.due("leave(-1, 0, 0)", x.leave(-1, 0, 0), -2);
        x.go(0);
        S.due("leave(0, 0, 0), gone to", x.leave(0, 0, 0), -5);
        S.due("leave(0, -1, -1), gone to", x.leave(0, -1, -1), -5);
        x.undo();
        x.waits(1);
        S.due("leave(0, 0, 0), waited", x.leave(0, 0, 0), -5);
        S.due("official(0, 7), as it was", x.official(0, 7), 5);
        S.due("official(0, 8), as it was", x.official(0, 8), 6);
        x.undo();
        S.due("leave(0, 0, 1), taken back", x.leave(0, 0, 1), 0);
        S.due("when(0)", x.when(0), 20);
        S.due("leave(0, 0, 0) without an OFFICE", new StampOrder().leave(0, 0, 0), -2);
    }

    private static void wants() {
        S.promise(63);
        S.says("The PERMIT is a set from now on: what it was. -2: there is no such set, no OFFICE.");
        StampOrder x = free(8, "permit 7;");
        S.due("start(1)", x.start(1), 1);
        x.go(7);
        S.due("wants(255), gone to", x.wants(255), 128);
        S.due("permit()", x.permit(), 255);
        S.due("done()", x.done(), 0);
        S.due("soonest()", x.soonest(), 8);
        S.due("start(1)", x.start(1), 8);
        S.due("wants(256)", x.wants(256), -2);
        S.due("wants(-1)", x.wants(-1), -2);
        S.due("wants(MIN)", x.wants(Integer.MIN_VALUE), -2);
        S.due("permit(), as it was", x.permit(), 255);
        S.due("wants(0)", x.wants(0), 255);
        S.due("done()", x.done(), 1);
        S.due("wants(0) again", x.wants(0), 0);
        x.anew();
        S.due("permit(), whatever is taken back", x.permit(), 0);
        S.due("wants(0) of no OFFICIALS", free(0, "").wants(0), 0);
        S.due("wants(1) of no OFFICIALS", free(0, "").wants(1), -2);
        S.due("wants(0) without an OFFICE", new StampOrder().wants(0), -2);
    }

    private static void count() {
        S.promise(64);
        S.says("0 OFFICIALS, 1 ROOMS, 2 NEEDS, 3 BARS, 4 LINES, 5 bytes of the TAPE, 6 gone to and waited, 7 the HOUR of the"
                + " start, 8 SLOTS that have a row.");
        StampOrder x = Check.told("office rooms 6 in 0 at 399;" + FREE.repeat(8)
                + "needs 0 1; needs 0 2; bars 0 1; permit 0; permit 0;");
        x.go(1);
        Check.type(x, "#".repeat(1600));
        for (int slot = 0; slot < 4; slot++) {
            S.due("count(8)", x.count(8), slot);
            x.row(slot, 0, 0);
            x.row(slot, 1, 60);
        }
        int[] due = {8, 6, 2, 1, 14, 1600, 1, 399, 4};
        for (int what = 0; what < 9; what++) {
            S.due("count(" + what + ")", x.count(what), due[what]);
        }
        x.office();
        S.due("count(5), read", x.count(5), 0);
        x.anew();
        S.due("count(6), anew", x.count(6), 0);
        for (int i = 0; i < 40; i++) {
            x.waits(1);
        }
        S.due("count(6), waits(1) beyond 400 aside", x.count(6), 1);
        S.says("NONE for others.");
        S.due("count(9)", x.count(9), -1);
        S.due("count(-1)", x.count(-1), -1);
        S.due("count(MAX)", x.count(Integer.MAX_VALUE), -1);
        S.due("count(9) without an OFFICE", new StampOrder().count(9), -1);
    }

    private static void keep() {
        S.promise(65);
        S.says("IMAGE k (0 .. 2) keeps the OFFICE, and what was gone to: 0. -2: no such k.");
        StampOrder x = free(1, "permit 0;");
        for (int k = 0; k < 3; k++) {
            S.due("keep(" + k + ")", x.keep(k), 0);
            x.waits(k + 1);
        }
        S.due("keep(3)", x.keep(3), -2);
        S.due("keep(-1)", x.keep(-1), -2);
        int[] hours = {0, 1, 3};
        for (int k = 2; k >= 0; k--) {
            x.back(k);
            S.due("now() of IMAGE " + k, x.now(), hours[k]);
            S.due("count(6) of IMAGE " + k, x.count(6), k);
        }
        for (int i = 0; i < 39; i++) {
            x.waits(2);
        }
        x.waits(9);
        x.keep(2);
        x.anew();
        for (int i = 0; i < 40; i++) {
            x.waits(3);
        }
        x.back(2);
        S.due("now() of forty", x.now(), 87);
        S.due("led(0) of forty", x.led(0), 12);
        S.due("led(39) of forty", x.led(39), 19);
        x.back(0);
        x.go(0);
        S.due("keep(1) again", x.keep(1), 0);
        x.anew();
        x.back(1);
        S.due("held(), kept last", x.held(), 1);
        S.due("led(0), kept last", x.led(0), 0);
    }

    private static void back() {
        S.promise(66);
        S.says("It is as IMAGE k has it: 0. -2: no such k; -6: it has nothing.");
        StampOrder x = Check.told("office rooms 2 in 0 at 5; way 0 1 4;" + FREE + "official room 1 from 0 to 9 days 31 price 3;"
                + "needs 1 0; leave 0 from 3 to 4; permit 1;");
        S.due("back(0) of nothing", x.back(0), -6);
        S.due("back(2) of nothing", x.back(2), -6);
        S.due("now(), as it was", x.now(), 5);
        x.go(0);
        x.waits(2);
        x.go(1);
        x.keep(0);
        x.keep(2);
        x.anew();
        x.ask(1, 0, 0, 0);
        x.ask(0, 1, 1, 1);
        x.leave(0, -1, -1);
        x.wants(3);
        S.due("back(1) of nothing", x.back(1), -6);
        S.due("back(3)", x.back(3), -2);
        S.due("back(-1)", x.back(-1), -2);
        S.due("permit(), as it was", x.permit(), 3);
        S.due("back(0)", x.back(0), 0);
        asItWas(x);
        x.undo();
        x.wants(0);
        S.due("back(0) again", x.back(0), 0);
        asItWas(x);
        Check.type(x, "office rooms 1 in 0 at 9;");
        x.office();
        Check.type(x, "#");
        Check.lay(x, 1, 0);
        S.due("back(2)", x.back(2), 0);
        asItWas(x);
        S.due("count(5), the TAPE stays", x.count(5), 1);
        S.due("count(8), the SLOTS stay", x.count(8), 1);
        S.due("undo() then", x.undo(), 2);
        S.due("now() then", x.now(), 8);
        S.due("anew() then", x.anew(), 2);
        S.due("soonest() then", x.soonest(), 11);
        S.due("start(0) then", x.start(0), 0);
        StampOrder none = new StampOrder();
        none.keep(0);
        Check.type(none, "office rooms 1 in 0 at 9;");
        none.office();
        S.due("back(0), no OFFICE was kept", none.back(0), 0);
        S.due("permit(), there is none", none.permit(), -2);
        S.due("count(4), there is none", none.count(4), 0);
    }

    private static void asItWas(StampOrder x) {
        S.due("now()", x.now(), 13);
        S.due("room()", x.room(), 1);
        S.due("held()", x.held(), 3);
        S.due("shoes()", x.shoes(), 4);
        S.due("paid()", x.paid(), 3);
        S.due("permit()", x.permit(), 2);
        S.due("done()", x.done(), 1);
        S.due("asks(1, 0)", x.asks(1, 0), 1);
        S.due("asks(0, 1)", x.asks(0, 1), 0);
        S.due("official(0, 7)", x.official(0, 7), 3);
        S.due("open(0, 30)", x.open(0, 30), 0);
        S.due("walk(0, 1)", x.walk(0, 1), 4);
        S.due("count(4)", x.count(4), 7);
        S.due("count(6)", x.count(6), 3);
        S.due("count(7)", x.count(7), 5);
        S.due("led(0)", x.led(0), 0);
        S.due("led(1)", x.led(1), 12);
        S.due("led(2)", x.led(2), 1);
        S.due("soonest()", x.soonest(), 13);
    }

    private static void row() {
        S.promise(67);
        S.says("A SLOT (0 .. 3) has a row of n numbers of a WIDTH, all 0 (in place of another one): 0.");
        StampOrder x = free(2, "");
        for (int slot = 0; slot < 4; slot++) {
            S.due("row(" + slot + ", 0, 2)", x.row(slot, 0, 2), 0);
            x.write(slot, 0, 1);
            S.due("judge, 1, 0", x.judge(slot), 2);
            S.due("row(" + slot + ", 3, 60)", x.row(slot, 3, 60), 0);
            S.due("bribed, 0 again and again", x.bribed(slot), 1);
            S.due("judge, 0 again", x.judge(slot), 1);
            S.due("row(" + slot + ", 1, 0)", x.row(slot, 1, 0), 0);
            S.due("judge, none", x.judge(slot), 0);
        }
        S.due("row without an OFFICE", new StampOrder().row(0, 0, 1), 0);
        S.says("-2: there is no such SLOT or WIDTH (0 .. 3), or n is above 60; -3, and the SLOT stays: n is below 0.");
        x.row(0, 0, 2);
        x.write(0, 0, 1);
        S.due("row(4, 0, 1)", x.row(4, 0, 1), -2);
        S.due("row(-1, 0, 1)", x.row(-1, 0, 1), -2);
        S.due("row(0, 4, 1)", x.row(0, 4, 1), -2);
        S.due("row(0, -1, 1)", x.row(0, -1, 1), -2);
        S.due("row(0, 0, 61)", x.row(0, 0, 61), -2);
        S.due("row(0, 0, MAX)", x.row(0, 0, Integer.MAX_VALUE), -2);
        S.due("row(0, 0, -1)", x.row(0, 0, -1), -3);
        S.due("row(0, 0, MIN)", x.row(0, 0, Integer.MIN_VALUE), -3);
        S.due("row(4, 0, -1)", x.row(4, 0, -1), -2);
        S.due("row(0, 4, -1)", x.row(0, 4, -1), -2);
        S.due("judge, it stays", x.judge(0), 2);
        S.due("row(3, 3, -1) of nothing", new StampOrder().row(3, 3, -1), -3);
        StampOrder none = free(1, "");
        none.row(3, 3, -1);
        S.due("judge, still nothing", none.judge(3), -6);
    }

    private static void write() {
        S.promise(68);
        S.says("Number i of the SLOT's row is v, cut to its WIDTH: 0.");
        StampOrder x = free(8, "");
        // 7, and bits above: cut off, or not
        int[] bits = {8, 16, 32};
        for (int width = 0; width < 4; width++) {
            x.row(0, width, 1);
            for (int bit : bits) {
                S.due("write(0, 0, 7 and 1 << " + bit + ")", x.write(0, 0, (1L << bit) + 7), 0);
                S.due("bribed, WIDTH " + width, x.bribed(0), 8 << width > bit ? -2 : 0);
            }
            x.write(0, 0, (1L << (8 << width) - 1) + 7);
            S.due("bribed, its highest bit, WIDTH " + width, x.bribed(0), -2);
            S.due("write(0, 0, 6)", x.write(0, 0, 6), 0);
            S.due("bribed, 6", x.bribed(0), 0);
            S.due("write(0, 0, -1)", x.write(0, 0, -1), 0);
            S.due("bribed, -1", x.bribed(0), -2);
        }
        x.row(3, 0, 60);
        S.due("write(3, 0, 8)", x.write(3, 0, 8), 0);
        S.due("judge, the first is none", x.judge(3), -2);
        x.write(3, 0, 0);
        S.due("write(3, 59, 8)", x.write(3, 59, 8), 0);
        S.due("judge, the last is none", x.judge(3), -2);
        StampOrder none = new StampOrder();
        none.row(0, 0, 1);
        S.due("write without an OFFICE", none.write(0, 0, 5), 0);
        S.says("-2: there is no such SLOT; -6: it has nothing; -7: there is no such number.");
        S.due("write(4, 0, 0)", x.write(4, 0, 0), -2);
        S.due("write(-1, 0, 0)", x.write(-1, 0, 0), -2);
        S.due("write(1, 0, 0) of nothing", x.write(1, 0, 0), -6);
        S.due("write(1, -1, 0) of nothing", x.write(1, -1, 0), -6);
        S.due("write(3, 60, 0)", x.write(3, 60, 0), -7);
        S.due("write(3, -1, 0)", x.write(3, -1, 0), -7);
        S.due("write(3, MAX, 0)", x.write(3, Integer.MAX_VALUE, 0), -7);
        x.row(3, 0, 0);
        S.due("write(3, 0, 0) of an empty row", x.write(3, 0, 0), -7);
    }

    private static void paste() {
        S.promise(69);
        S.says("So many numbers of a SLOT's row, from one on, are put to another one's (or its own), from one on, as they were:"
                + " 0.");
        StampOrder x = free(8, "needs 1 0; needs 2 1; needs 3 2; needs 4 3;");
        Check.lay(x, 0, 0, 1, 2, 3, 4);
        Check.lay(x, 1, 7, 7, 7, 7, 7, 7);
        S.due("paste(0, 0, 1, 1, 5), all", x.paste(0, 0, 1, 1, 5), 0);
        S.due("judge, 7 0 1 2 3 4", x.judge(1), 6);
        S.due("judge, 0 1 2 3 4", x.judge(0), 5);
        S.due("paste(0, 0, 0, 1, 4), up", x.paste(0, 0, 0, 1, 4), 0);
        S.due("judge, 0 0 1 2 3", x.judge(0), 1);
        S.due("bribed, 0 0 1 2 3", x.bribed(0), 1);
        S.due("paste(0, 1, 0, 0, 4), down", x.paste(0, 1, 0, 0, 4), 0);
        S.due("judge, 0 1 2 3 3", x.judge(0), 4);
        S.due("bribed, 0 1 2 3 3", x.bribed(0), 8);
        S.due("paste(0, 2, 0, 2, 3), where they are", x.paste(0, 2, 0, 2, 3), 0);
        S.due("judge, 0 1 2 3 3", x.judge(0), 4);
        S.due("paste(0, 0, 1, 0, 0), none", x.paste(0, 0, 1, 0, 0), 0);
        S.due("judge, 7 0 1 2 3 4", x.judge(1), 6);
        x.row(2, 3, 1);
        x.row(3, 3, 1);
        x.write(2, 0, 1L << 40);
        S.due("paste(2, 0, 3, 0, 1), a long number", x.paste(2, 0, 3, 0, 1), 0);
        S.due("judge, a long number", x.judge(3), -2);
        S.says("-2: there is no such SLOT; -6: one has nothing; -8: they are not of one WIDTH;");
        S.due("paste(4, 0, 0, 0, 0)", x.paste(4, 0, 0, 0, 0), -2);
        S.due("paste(-1, 0, 0, 0, 0)", x.paste(-1, 0, 0, 0, 0), -2);
        S.due("paste(0, 0, 4, 0, 0)", x.paste(0, 0, 4, 0, 0), -2);
        S.due("paste(0, 0, -1, 0, 0)", x.paste(0, 0, -1, 0, 0), -2);
        S.due("paste(0, 0, 2, 0, 1)", x.paste(0, 0, 2, 0, 1), -8);
        S.due("paste(2, 0, 0, 0, 1)", x.paste(2, 0, 0, 0, 1), -8);
        S.due("paste(0, -1, 2, 0, 1), widths first", x.paste(0, -1, 2, 0, 1), -8);
        StampOrder y = free(1, "");
        S.due("paste of nothing", y.paste(0, 0, 1, 0, 0), -6);
        Check.lay(y, 0, 0);
        S.due("paste to nothing", y.paste(0, 0, 1, 0, 0), -6);
        S.due("paste of nothing to a row", y.paste(1, 0, 0, 0, 0), -6);
        S.due("paste of nothing, beyond", y.paste(1, 9, 0, 0, 0), -6);
        S.says("-7, and nothing happens: some are beyond their rows (also where n is 0, a place above how many it has),"
                + " or a place or n is below 0.");
        // rows of 5 and 6
        int[][] beyond = {{0, 0, 6}, {1, 0, 5}, {5, 0, 1}, {6, 0, 0}, {0, 7, 0}, {0, 6, 1}, {0, 2, 5}, {-1, 0, 1}, {0, -1, 1},
            {0, 0, -1}, {-1, 0, 0}, {0, -1, 0}, {Integer.MAX_VALUE, 0, Integer.MAX_VALUE}, {1, 1, Integer.MAX_VALUE},
            {Integer.MIN_VALUE, 0, 0}, {0, 0, Integer.MIN_VALUE}};
        for (int[] of : beyond) {
            S.due("paste(0, " + of[0] + ", 1, " + of[1] + ", " + of[2] + ")", x.paste(0, of[0], 1, of[1], of[2]), -7);
        }
        S.due("judge, nothing happened", x.judge(1), 6);
        S.due("paste(0, 5, 1, 6, 0), the last places", x.paste(0, 5, 1, 6, 0), 0);
        S.due("paste(0, 4, 1, 5, 1), the last ones", x.paste(0, 4, 1, 5, 1), 0);
        S.due("judge, 7 0 1 2 3 3", x.judge(1), 5);
        S.due("paste(1, 0, 0, 0, 6), the other is shorter", x.paste(1, 0, 0, 0, 6), -7);
        x.row(1, 0, 0);
        S.due("paste of an empty row", x.paste(1, 0, 1, 0, 0), 0);
        S.due("paste of an empty row, one", x.paste(1, 0, 1, 0, 1), -7);
    }
}
