/** The edges of the text, sentence by sentence: what stands ahead of Terms, Terms I, promises 1 to 5. */
public final class BoundaryTextTest {
    private static final Sentences S = new Sentences("BoundaryTextTest");
    private static final String HEAD = "office rooms 2 in 0 at 0;";
    private static final String ONE = "official room 0 from 5 to 5 days 1";
    private static final String TWO = HEAD + ONE + ";" + ONE + ";";
    private static final String EIGHT = HEAD + (ONE + ";").repeat(8);

    public static void main(String[] args) {
        calls();
        face();
        S.term("I");
        lines();
        head();
        officials();
        marks();
        ways();
        askings();
        leaves();
        permits();
        tokens();
        faults();
        slots();
        newObject();
        feed();
        end();
        office();
        fault();
        S.close();
    }

    private static void calls() {
        S.term("What it is");
        S.says("An object is used for at most 512 calls after it has been made");
        StampOrder x = new StampOrder();
        // "office rooms 1 in 0 at 0;" and blanks
        x.feed(0x6f666669, 0x63652072, 0x6f6f6d73, 0x20312069, 0x6e203020);
        x.feed(0x61742030, 0x3b202020, 0x20202020, 0x20202020, 0x20202020);
        x.office();
        int calls = 3;
        for (; calls < 510; calls += 3) {
            S.due("waits(99), call " + (calls + 1), x.waits(99), 99);
            S.due("keep(), call " + (calls + 2), x.keep(calls / 3 % 3), 0);
            S.due("undo(), call " + (calls + 3), x.undo(), 0);
        }
        S.due("waits(3), the last call but one", x.waits(3), 3);
        S.due("now(), the last call", x.now(), 3);
        S.due("calls", calls + 2, 512);
    }

    private static void face() {
        S.term("The public face");
        S.says("public static final int NONE = -1;");
        S.due("NONE", StampOrder.NONE, -1);
    }

    private static void lines() {
        S.says("{LINE ;}");
        S.fine("", 0);
        S.fine(HEAD, 1);
        S.fault(1, "office rooms 2 in 0 at 0^");
        S.fault(1, "office rooms 2 in 0 at 0;^;");
        S.fault(1, HEAD + ONE + " ^way 0 1 1;");
        S.says("office is the first LINE and no other");
        S.fault(1, "^way 0 1 1;" + HEAD);
        S.fault(1, "^;" + HEAD);
        S.fault(1, "^7;" + HEAD);
        S.fault(1, HEAD + "^" + HEAD);
        S.fault(1, TWO + "^office rooms 2 in 0 at 0;");
    }

    private static void head() {
        S.says("rooms 1 .. 6, in the ROOM and at the HOUR T (0 .. 399) of the start.");
        S.fault(2, "office rooms ^0 in 0 at 0;");
        S.fine("office rooms 1 in 0 at 0;", 1);
        S.fine("office rooms 6 in 0 at 0;", 1);
        S.fault(2, "office rooms ^7 in 0 at 0;");
        S.fault(2, "office rooms 1 in ^1 at 0;");
        S.fault(2, "office rooms 6 in ^6 at 0;");
        S.fault(2, "office rooms 6 in 5 at ^400;");
        StampOrder x = Check.told("office rooms 6 in 5 at 399;");
        S.due("room()", x.room(), 5);
        S.due("now()", x.now(), 399);
        S.due("count(1)", x.count(1), 6);
        x = Check.told("office rooms 1 in 0 at 0;");
        S.due("room()", x.room(), 0);
        S.due("now()", x.now(), 0);
        S.due("count(1)", x.count(1), 1);
    }

    private static void officials() {
        S.says("R a ROOM 0 .. rooms less 1");
        S.fine(HEAD + "official room 0 from 5 to 5 days 1;", 2);
        S.fine(HEAD + "official room 1 from 5 to 5 days 1;", 2);
        S.fault(2, HEAD + "official room ^2 from 5 to 5 days 1;");
        S.fine("office rooms 6 in 0 at 0; way 5 0 1; way 4 5 1; official room 5 from 5 to 5 days 1;", 4);
        S.fault(2, HEAD + "way ^2 0 1;");
        S.fault(2, HEAD + "way 0 ^2 1;");
        S.says("H 0 .. 9");
        S.fine(HEAD + "official room 0 from 0 to 9 days 1 lunch 0;", 2);
        S.fine(HEAD + "official room 0 from 9 to 9 days 1 lunch 9;", 2);
        S.fault(2, HEAD + "official room 0 from ^10 to 10 days 1;");
        S.fault(2, HEAD + "official room 0 from 9 to ^10 days 1;");
        S.fault(2, HEAD + ONE + " lunch ^10;");
        S.says("(to: no earlier than from)");
        S.fine(HEAD + "official room 0 from 0 to 0 days 1;", 2);
        S.fine(HEAD + "official room 0 from 5 to 5 days 1;", 2);
        S.fault(2, HEAD + "official room 0 from 5 to ^4 days 1;");
        S.fault(2, HEAD + "official room 0 from 1 to ^0 days 1;");
        S.says("days 1 .. 31 (bits of 0 .. 4)");
        S.fault(2, HEAD + "official room 0 from 5 to 5 days ^0;");
        S.fine(HEAD + "official room 0 from 5 to 5 days 31;", 2);
        S.fault(2, HEAD + "official room 0 from 5 to 5 days ^32;");
        for (int bit = 0; bit < 5; bit++) {
            StampOrder x = Check.told(HEAD + "official room 0 from 5 to 5 days " + (1 << bit) + ";");
            for (int day = 0; day < 10; day++) {
                S.due("days " + (1 << bit) + ", open on day " + day, x.open(0, 10 * day + 5), day % 5 == bit ? 1 : 0);
            }
        }
        S.says("OFFICIALS 0 .. 7 are numbered as they stand.");
        StringBuilder eight = new StringBuilder(HEAD);
        for (int i = 0; i < 8; i++) {
            eight.append(ONE).append(" price ").append(90 + i).append(";");
        }
        StampOrder x = Check.told(eight.toString());
        for (int i = 0; i < 8; i++) {
            S.due("official(" + i + ", 6)", x.official(i, 6), 90 + i);
        }
        S.due("official(8, 6)", x.official(8, 6), -2);
    }

    private static void marks() {
        S.says("MARK: lunch H | fades N (1 .. 20 days) | price N (0 .. 99)");
        S.fine(HEAD + ONE + ";", 2);
        S.fault(2, HEAD + ONE + " fades ^0;");
        S.fine(HEAD + ONE + " fades 1;", 2);
        S.fine(HEAD + ONE + " fades 20;", 2);
        S.fault(2, HEAD + ONE + " fades ^21;");
        S.fine(HEAD + ONE + " price 0;", 2);
        S.fine(HEAD + ONE + " price 99;", 2);
        S.fault(2, HEAD + ONE + " price ^100;");
        S.says("each once, in any order");
        String[] marks = {" lunch 5", " fades 5", " price 5"};
        for (int i = 0; i < 3; i++) {
            for (int j = 0; j < 3; j++) {
                if (i == j) {
                    S.fault(1, HEAD + ONE + marks[i] + " ^" + marks[i].substring(1) + ";");
                } else {
                    S.fine(HEAD + ONE + marks[i] + marks[j] + ";", 2);
                    S.fine(HEAD + ONE + marks[i] + marks[j] + marks[3 - i - j] + ";", 2);
                    S.fault(1, HEAD + ONE + marks[i] + marks[j] + " ^" + marks[i].substring(1) + ";");
                    S.fault(1, HEAD + ONE + marks[i] + marks[j] + marks[3 - i - j] + " ^" + marks[i].substring(1) + ";");
                }
            }
        }
    }

    private static void ways() {
        S.says("way: unlike ROOMS, 1 .. 9 HOURS");
        S.fault(2, HEAD + "way 0 ^0 1;");
        S.fault(2, HEAD + "way 1 ^1 1;");
        S.fault(2, HEAD + "way 0 1 ^0;");
        S.fine(HEAD + "way 0 1 1;", 2);
        S.fine(HEAD + "way 1 0 9;", 2);
        S.fault(2, HEAD + "way 0 1 ^10;");
        S.says("either way (a later one strikes)");
        StampOrder x = Check.told(HEAD + "way 0 1 4;");
        S.due("walk(0, 1)", x.walk(0, 1), 4);
        S.due("walk(1, 0)", x.walk(1, 0), 4);
        x = Check.told(HEAD + "way 0 1 4; way 0 1 9;");
        S.due("longer, walk(0, 1)", x.walk(0, 1), 9);
        S.due("longer, walk(1, 0)", x.walk(1, 0), 9);
        x = Check.told(HEAD + "way 0 1 4; way 1 0 3;");
        S.due("turned, walk(0, 1)", x.walk(0, 1), 3);
        S.due("turned, walk(1, 0)", x.walk(1, 0), 3);
    }

    private static void askings() {
        S.says("O: an OFFICIAL told ahead");
        for (String line : new String[] {"needs ^0 1;", "bars ^0 1;", "leave ^0 from 0 to 0;", "permit ^0;"}) {
            S.fault(2, HEAD + line + ONE + ";" + ONE + ";");
        }
        for (String line : new String[] {"needs 0 ^1;", "bars 0 ^1;", "leave ^1 from 0 to 0;", "permit ^1;", "permit 0 ^1;"}) {
            S.fault(2, HEAD + ONE + ";" + line + ONE + ";");
            S.fine(TWO + line.replace("^", ""), 4);
        }
        S.fine(EIGHT + "needs 7 0; bars 0 7; leave 7 from 0 to 0; permit 7;", 13);
        S.fault(2, EIGHT + "permit ^8;");
        S.says("needs, bars: unlike ones, told once each at most");
        S.fault(2, TWO + "needs 0 ^0;");
        S.fault(2, TWO + "bars 1 ^1;");
        S.fault(2, TWO + "needs 0 1; needs 0 ^1;");
        S.fault(2, TWO + "bars 1 0; needs 0 1; bars 1 ^0;");
        S.fine(TWO + "needs 0 1; needs 1 0;", 5);
        S.fine(TWO + "bars 0 1; bars 1 0;", 5);
        S.says("(needs and bars of the same two: both)");
        S.fine(TWO + "needs 0 1; bars 0 1;", 5);
        StampOrder x = Check.told(TWO + "bars 0 1; needs 0 1;");
        S.due("asks(0, 0)", x.asks(0, 0), 2);
        S.due("asks(0, 1)", x.asks(0, 1), 2);
    }

    private static void leaves() {
        S.says("leave: D 0 .. 39, to no earlier than from; a later one strikes");
        S.fine(TWO + "leave 0 from 0 to 39;", 4);
        S.fine(TWO + "leave 0 from 39 to 39;", 4);
        S.fine(TWO + "leave 0 from 0 to 0;", 4);
        S.fault(2, TWO + "leave 0 from ^40 to 40;");
        S.fault(2, TWO + "leave 0 from 39 to ^40;");
        S.fault(2, TWO + "leave 0 from 7 to ^6;");
        StampOrder x = Check.told(TWO + "leave 0 from 3 to 30; leave 1 from 1 to 2; leave 0 from 4 to 5;");
        S.due("official(0, 7)", x.official(0, 7), 4);
        S.due("official(0, 8)", x.official(0, 8), 5);
        S.due("official(1, 7)", x.official(1, 7), 1);
        S.due("official(1, 8)", x.official(1, 8), 2);
    }

    private static void permits() {
        S.says("permit: like ones count once; a later one strikes (without: nobody)");
        S.due("like ones", Check.told(TWO + "permit 1 1 0 1 0;").permit(), 3);
        S.due("a later one", Check.told(TWO + "permit 0; permit 1;").permit(), 2);
        S.due("without", Check.told(TWO).permit(), 0);
        S.fine(TWO + "permit 0" + " 0".repeat(200) + ";", 4);
        S.fault(1, TWO + "permit^;");
    }

    private static void tokens() {
        S.says("TOKENS, blanks (32, 10) aside");
        S.fine(" \n " + HEAD.replace(" ", "\n \n") + " \n", 1);
        S.fault(1, "^off ice rooms 2 in 0 at 0;");
        S.fault(1, "office rooms 2 in 0 at 1 ^2;");
        for (int sign = 0; sign < 256; sign++) {
            String text = "office" + (char) sign + "rooms 2 in 0 at 0;";
            if (sign == 32 || sign == 10) {
                S.fine(text, 1);
            } else {
                S.fault(1, sign >= 'a' && sign <= 'z' ? 0 : 6, text);
            }
        }
        S.says("the longest");
        S.fault(1, "^officerooms 2 in 0 at 0;");
        S.fine("office rooms2in0at399;official room0from0to9days31lunch9price99;", 2);
        S.due("price 099", Check.told(HEAD + ONE + " price 099;").official(0, 6), 99);
        S.fault(1, HEAD + ONE + " price 9 ^9;");
        S.says("words (a .. z), numbers (digits), the sign ;");
        for (int sign = 0; sign < 256; sign++) {
            String text = "office rooms 2 in 0 at 0" + (char) sign;
            boolean digit = sign >= '0' && sign <= '9';
            if (sign == ';') {
                S.fine(text, 1);
            } else {
                S.fault(1, digit || sign == 32 || sign == 10 ? 25 : 24, text);
            }
        }
        S.fault(1, "office ^rooMs 2 in 0 at 0;");
        S.fault(1, "office rooms ^-1 in 0 at 0;");
        S.fault(1, "office rooms ^+1 in 0 at 0;");
    }

    private static void faults() {
        S.says("FAULTS, the first by its place (a TOKEN's first byte; the end's)");
        S.fault(2, "office rooms ^7 # office;");
        S.fault(1, "office ^# rooms 7;");
        S.fault(1, "^foo rooms 7;");
        S.fault(2, "office rooms 2 in 0 at   ^4000;");
        S.fault(1, "office rooms 2 in 0 ^att 0;");
        S.fault(1, "office rooms 2 in 0 at^");
        S.fault(1, "office rooms 2 in 0 at 0 \n ^");
        S.fault(1, HEAD + "way 0 1\n^");
        S.says("of one place the least");
        S.fault(1, "office ^7 in 9;");
        S.fault(1, EIGHT.substring(0, EIGHT.length() - 1) + " ^" + ONE + ";");
        S.fault(1, HEAD + ONE + " lunch 1 ^lunch 99;");
        S.says("1 a TOKEN that is none, or can't stand there (office behind the first LINE, another word ahead of it;"
                + " a MARK that is there already).");
        S.fault(1, HEAD + "^.");
        S.fault(1, HEAD + "way 0 ^- 1;");
        S.fault(1, HEAD + "way 0 1 1 ^1;");
        S.fault(1, HEAD + "way 0 1 ^;");
        S.fault(1, HEAD + "way ^to 1 1;");
        S.fault(1, HEAD + "^7;");
        S.fault(1, HEAD + "^fades 1;");
        S.fault(1, HEAD + "^office");
        S.fault(1, "office ^office");
        for (String word : new String[] {"official", "way", "needs", "bars", "leave", "permit", "rooms", "offic"}) {
            S.fault(1, "^" + word + " 0 0 1;");
        }
        S.fault(1, HEAD + ONE + " price 0 ^price 0;");
        spoiltWords(HEAD + ONE + " lunch 1 fades 1 price 1;" + ONE + ";way 0 1 1;needs 0 1;bars 0 1;"
                + "leave 0 from 0 to 0;permit 0;");
        S.says("2 a number out of its bounds, not as said.");
        for (String big : new String[] {"7", "4294967297", "18446744073709551617", "100000", "9".repeat(500)}) {
            S.fault(2, "office rooms ^" + big + " in 0 at 0;");
        }
        S.fine("office rooms " + "0".repeat(500) + "1 in 0 at 0;", 1);
        S.fault(2, TWO + "needs 1 ^1;");
        S.says("3 a 9th official, at its word.");
        S.fine(EIGHT, 9);
        S.fault(3, EIGHT + "^official room 0 from 5 to 5 days 1;");
        S.fault(3, EIGHT + "permit 0;\n^official");
        S.fault(3, EIGHT + "^official room 99 #");
        S.fault(1, EIGHT + "^officials");
    }

    /** Every word with one letter another one, one less, one more. */
    private static void spoiltWords(String text) {
        S.fine(text, 8);
        int word = 0;
        for (int i = 0; i < text.length(); i++) {
            if (Character.isLetter(text.charAt(i))) {
                S.fault(1, word, text.substring(0, i) + "x" + text.substring(i + 1));
                S.fault(1, word, text.substring(0, i) + "x" + text.substring(i));
                if (i > word || Character.isLetter(text.charAt(i + 1))) {
                    S.fault(1, word, text.substring(0, i) + text.substring(i + 1));
                }
            } else {
                word = i + 1;
            }
        }
    }

    private static void slots() {
        S.says("SLOTS 0 .. 3 have rows of numbers of 1, 2, 4 or 8 bytes (WIDTH 0 .. 3), at most 60, or nothing.");
        StampOrder x = Check.told(TWO);
        for (int slot = 0; slot < 4; slot++) {
            S.due("judge(" + slot + ") of nothing", x.judge(slot), -6);
            S.due("row(" + slot + ", " + slot + ", 60)", x.row(slot, slot, 60), 0);
            S.due("write(" + slot + ", 59, ..)", x.write(slot, 59, 1L << (8 << slot)), 0);
            S.due("judge(" + slot + "), the number being " + (slot < 3 ? "cut" : "whole"), x.judge(slot), 1);
            S.due("write(" + slot + ", 60, 0)", x.write(slot, 60, 0), -7);
            x.write(slot, 59, 1L << (8 << slot) - 1);
            S.due("judge(" + slot + "), its highest bit", x.judge(slot), -2);
        }
        S.due("row(-1, 0, 1)", x.row(-1, 0, 1), -2);
        S.due("row(4, 0, 1)", x.row(4, 0, 1), -2);
        S.due("row(0, -1, 1)", x.row(0, -1, 1), -2);
        S.due("row(0, 4, 1)", x.row(0, 4, 1), -2);
        S.due("row(0, 0, 61)", x.row(0, 0, 61), -2);
    }

    private static void newObject() {
        S.promise(1);
        S.says("No OFFICE.");
        StampOrder x = new StampOrder();
        S.due("permit()", x.permit(), -2);
        S.due("now()", x.now(), -2);
        S.due("sets()", x.sets(), -2);
        for (int what = 0; what < 9; what++) {
            S.due("count(" + what + ")", x.count(what), 0);
        }
    }

    private static void feed() {
        S.promise(2);
        S.says("Twenty bytes come behind the TAPE, four of each number, the highest first: how many it has");
        StampOrder x = new StampOrder();
        // "office rooms 3 in 2 " and "at 123;", the rest blanks and, at the end, a byte of 255
        S.due("feed", x.feed(0x6f666669, 0x63652072, 0x6f6f6d73, 0x20332069, 0x6e203220), 20);
        S.due("feed again", x.feed(0x61742031, 0x32333b20, 0x0a202020, 0x20202020, 0x202020ff), 40);
        S.due("office()", x.office(), -4);
        S.due("fault(1), the last byte", x.fault(1), 39);
        x.feed(0x6f666669, 0x63652072, 0x6f6f6d73, 0x20332069, 0x6e203220);
        x.feed(0x61742031, 0x32333b20, 0x0a202020, 0x20202020, 0x20202020);
        S.due("office()", x.office(), 1);
        S.due("now()", x.now(), 123);
        S.says("NONE, and none come, if it would have more than 1,600");
        for (int i = 1; i <= 80; i++) {
            S.due("feed " + i, x.feed(-1, -1, -1, -1, -1), 20 * i);
        }
        S.due("feed 81", x.feed(0x20202020, 0x20202020, 0x20202020, 0x20202020, 0x20202020), -1);
        S.due("count(5)", x.count(5), 1600);
        x.end(1581);
        S.due("feed of 1581", x.feed(0x20202020, 0x20202020, 0x20202020, 0x20202020, 0x20202020), -1);
        S.due("count(5)", x.count(5), 1581);
        x.end(1580);
        S.due("feed of 1580", x.feed(0x20202020, 0x20202020, 0x20202020, 0x20202020, 0x20202020), 1600);
        x.end(0);
        String full = HEAD + " ".repeat(1600 - HEAD.length() - 1);
        Check.type(x, full + "#");
        S.due("count(5), full", x.count(5), 1600);
        S.due("feed of a full one", x.feed(0, 0, 0, 0, 0), -1);
        S.due("office()", x.office(), -4);
        S.due("fault(1)", x.fault(1), 1599);
        Check.type(x, full + "\n");
        S.due("office(), full", x.office(), 1);
    }

    private static void end() {
        S.promise(3);
        S.says("The TAPE has its first n bytes alone: n");
        StampOrder x = new StampOrder();
        Check.type(x, HEAD + "#");
        S.due("end(26)", x.end(26), 26);
        S.due("end(25)", x.end(25), 25);
        S.due("count(5)", x.count(5), 25);
        S.due("office()", x.office(), 1);
        Check.type(x, "#");
        S.due("end(0)", x.end(0), 0);
        S.due("office()", x.office(), 0);
        S.says("NONE, and nothing happens, if it has not so many, or n is below 0.");
        S.due("end(1) of none", x.end(1), -1);
        S.due("end(0) of none", x.end(0), 0);
        Check.type(x, HEAD);
        S.due("end(26) of 25", x.end(26), -1);
        S.due("end(-1)", x.end(-1), -1);
        S.due("end(MIN)", x.end(Integer.MIN_VALUE), -1);
        S.due("end(MAX)", x.end(Integer.MAX_VALUE), -1);
        S.due("count(5)", x.count(5), 25);
        S.due("office()", x.office(), 1);
    }

    private static void office() {
        S.promise(4);
        S.says("The TAPE (empty then) is the OFFICE (in place of another), nobody gone to");
        StampOrder x = Check.told(TWO + "way 0 1 3; needs 1 0; leave 0 from 3 to 3; permit 0;");
        x.go(0);
        x.waits(3);
        S.due("go", x.count(6), 2);
        Check.type(x, "office rooms 2 in 1 at 9;" + ONE + ";");
        S.due("office()", x.office(), 2);
        S.due("count(5)", x.count(5), 0);
        S.due("count(6)", x.count(6), 0);
        S.due("now()", x.now(), 9);
        S.due("room()", x.room(), 1);
        S.due("held()", x.held(), 0);
        S.due("shoes()", x.shoes(), 0);
        S.due("count(0)", x.count(0), 1);
        S.due("walk(0, 1)", x.walk(0, 1), -1);
        S.due("permit()", x.permit(), 0);
        S.due("official(0, 7)", x.official(0, 7), -1);
        String six = "office rooms 6 in 0 at 0;" + ONE + ";" + ONE + ";";
        Check.type(x, six + "needs 0 1; bars 0 1; needs 1 0; bars 1 0; leave 0 from 1 to 2; way 5 0 1; way 4 3 1; permit 0 1;");
        x.office();
        Check.type(x, six);
        x.office();
        for (int what = 0; what < 2; what++) {
            S.due("asks(0, " + what + ")", x.asks(0, what), 0);
            S.due("asks(1, " + what + ")", x.asks(1, what), 0);
        }
        S.due("walk(5, 0)", x.walk(5, 0), -1);
        S.due("walk(3, 4)", x.walk(3, 4), -1);
        S.due("official(0, 7)", x.official(0, 7), -1);
        S.due("permit()", x.permit(), 0);
        Check.type(x, "office rooms 2 in 1 at 9;" + ONE + ";");
        x.office();
        S.says("how many LINES (0: there is none then)");
        S.due("count(4)", x.count(4), 2);
        S.due("office() of nothing", x.office(), 0);
        S.due("permit()", x.permit(), -2);
        S.due("count(0)", x.count(0), 0);
        S.due("count(1)", x.count(1), 0);
        S.due("walk(0, 0)", x.walk(0, 0), -2);
        S.due("count(4)", x.count(4), 0);
        S.due("count(7)", x.count(7), 0);
        S.fine("\n\n ", 0);
        StringBuilder many = new StringBuilder(HEAD + ONE + ";");
        for (int i = 0; i < 100; i++) {
            many.append("permit 0;");
        }
        S.fine(many.toString(), 102);
        S.says("-4: a FAULT (the TAPE is empty, all else stays).");
        x = Check.told(TWO + "permit 0;");
        x.go(0);
        x.keep(1);
        Check.lay(x, 2, 0);
        Check.type(x, "office rooms 1 in 0 at 3; permit 0;");
        S.due("office()", x.office(), -4);
        S.due("count(5)", x.count(5), 0);
        S.due("count(4)", x.count(4), 4);
        S.due("count(6)", x.count(6), 1);
        S.due("count(7)", x.count(7), 0);
        S.due("count(8)", x.count(8), 1);
        S.due("permit()", x.permit(), 1);
        S.due("now()", x.now(), 6);
        S.due("held()", x.held(), 1);
        S.due("soonest()", x.soonest(), 6);
        S.due("back(1)", x.back(1), 0);
        x = new StampOrder();
        Check.type(x, "#");
        S.due("office() of a new one", x.office(), -4);
        S.due("permit(), none there", x.permit(), -2);
    }

    private static void fault() {
        S.promise(5);
        S.says("Of the latest office(), what 0: its FAULT, 0 without, 1: its place (NONE without).");
        StampOrder x = new StampOrder();
        Check.type(x, "office rooms 7");
        x.office();
        S.due("fault(0)", x.fault(0), 2);
        S.due("fault(1)", x.fault(1), 13);
        Check.type(x, "#");
        x.office();
        S.due("fault(0) of the latest", x.fault(0), 1);
        S.due("fault(1), at the first byte", x.fault(1), 0);
        x.keep(0);
        x.back(0);
        S.due("fault(0) stays", x.fault(0), 1);
        Check.type(x, HEAD);
        S.due("fault(1) till the next", x.fault(1), 0);
        x.office();
        S.due("fault(0) without", x.fault(0), 0);
        S.due("fault(1) without", x.fault(1), -1);
        Check.type(x, "#");
        x.office();
        x.back(0);
        S.due("fault(0) behind back()", x.fault(0), 1);
        x.office();
        S.due("fault(0) of no LINE", x.fault(0), 0);
        S.due("fault(1) of no LINE", x.fault(1), -1);
        S.says("NONE for another what, and ahead of any (what 1).");
        x = new StampOrder();
        S.due("fault(0) ahead of any", x.fault(0), 0);
        S.due("fault(1) ahead of any", x.fault(1), -1);
        S.due("fault(2) ahead of any", x.fault(2), -1);
        Check.type(x, "#");
        x.office();
        for (int what : new int[] {-1, 2, 3, Integer.MIN_VALUE, Integer.MAX_VALUE}) {
            S.due("fault(" + what + ")", x.fault(what), -1);
        }
    }
}
