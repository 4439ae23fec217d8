import java.util.Random;

/** Random offices, texts with faults and runs of calls: the class against PlainOffice. */
public final class PlainModelTest {
    private static final Check CHECK = new Check("PlainModelTest");
    private static final int CALLS = 69;

    private final Random random;
    private final StringBuilder trail = new StringBuilder();
    private StampOrder x = new StampOrder();
    private PlainOffice m = new PlainOffice();
    private int officials;

    private PlainModelTest(long seed) {
        random = Check.randomOf(seed);
    }

    public static void main(String[] args) {
        int from = args.length > 0 ? Integer.parseInt(args[0]) : 0;
        int to = args.length > 1 ? Integer.parseInt(args[1]) : 700;
        for (int seed = from; seed < to && !CHECK.isWrong(); seed++) {
            new PlainModelTest(seed).runOnce(seed);
        }
        for (int seed = from; seed < to && !CHECK.isWrong(); seed++) {
            new PlainModelTest(seed).spoiltTexts(seed);
        }
        CHECK.close();
    }

    // ---- a run of calls

    private void runOnce(int seed) {
        officials = random.nextInt(8) == 0 ? random.nextInt(9) : 1 + random.nextInt(5);
        tell(office(officials));
        for (int i = 0; i < 120 && !CHECK.isWrong(); i++) {
            int kind = random.nextInt(3) == 0 ? 14 + random.nextInt(10) : 2 + random.nextInt(CALLS - 1);
            if (officials > 7 && isDear(kind)) {
                continue;
            }
            call(kind);
        }
        if (CHECK.isWrong()) {
            System.out.println("seed " + seed + ":\n" + trail);
        }
    }

    /** Of many OFFICIALS the model takes long for these. */
    private static boolean isDear(int kind) {
        return kind >= 29 && kind <= 41 || kind == 60 || kind == 48 || kind == 49 || kind == 50;
    }

    private void tell(String text) {
        trail.append("text ").append(text).append('\n');
        feedBoth(text);
        check("office", x.office(), m.office());
        check("fault(0)", x.fault(0), m.fault(0));
        check("fault(1)", x.fault(1), m.fault(1));
    }

    private void feedBoth(String text) {
        Check.type(x, text);
        int length = text.length();
        for (int i = 0; i < length; i += 20) {
            int[] fives = new int[5];
            for (int j = 0; j < 20; j++) {
                int sign = i + j < length ? text.charAt(i + j) & 255 : 32;
                fives[j / 4] = fives[j / 4] << 8 | sign;
            }
            m.feed(fives[0], fives[1], fives[2], fives[3], fives[4]);
        }
        m.end(length);
    }

    private void check(String call, long got, long want) {
        trail.append(call).append(" -> ").append(got).append(", due ").append(want).append('\n');
        CHECK.due(call, got, want);
    }

    private int below(int n) {
        return random.nextInt(n);
    }

    /** Mostly an OFFICIAL that there is. */
    private int who() {
        return below(12) == 0 ? below(11) - 1 : below(Math.max(1, officials));
    }

    private int set() {
        return below(12) == 0 ? below(300) - 10 : below(1 << officials);
    }

    /** Mostly 0 or 1. */
    private int bit() {
        return below(15) == 0 ? below(4) - 1 : below(2);
    }

    private int slot() {
        return below(15) == 0 ? below(7) - 1 : below(4);
    }

    private int seed() {
        return below(15) == 0 ? random.nextInt() : below(2000000001);
    }

    private int drawn() {
        return below(15) == 0 ? below(30) - 3 : 1 + below(6);
    }

    private int hour() {
        return below(15) == 0 ? below(450) - 20 : below(400);
    }

    private void call(int kind) {
        if (kind <= 5) {
            callText(kind);
        } else if (kind <= 28) {
            callStanding(kind);
        } else if (kind <= 41) {
            callRows(kind);
        } else if (kind <= 60) {
            callOrders(kind);
        } else {
            callChange(kind);
        }
    }

    private void callText(int kind) {
        if (kind == 4 && below(4) == 0) {
            officials = below(6);
            tell(office(officials));
        } else if (kind == 4 && below(6) == 0) {
            tell(below(2) == 0 ? "" : office(2) + "x");
            officials = Math.max(0, Math.min(8, x.count(0)));
        } else if (kind == 2 && x.count(5) < 100) {
            int a = random.nextInt();
            check("feed", x.feed(a, 1, 2, 3, 4), m.feed(a, 1, 2, 3, 4));
            check("end(0)", x.end(0), m.end(0));
        } else if (kind == 3) {
            int n = below(30) - 10;
            check("end(" + n + ")", x.end(n), m.end(n));
        } else {
            int what = below(4) - 1;
            check("fault(" + what + ")", x.fault(what), m.fault(what));
        }
    }

    private void callStanding(int kind) {
        int o = who();
        int what = bit();
        int hour = hour();
        int n = below(10) == 0 ? below(110) - 5 : 1 + below(12);
        switch (kind) {
            case 6:
                int fact = below(11) - 1;
                check("official(" + o + ", " + fact + ")", x.official(o, fact), m.official(o, fact));
                break;
            case 7:
                check("asks(" + o + ", " + what + ")", x.asks(o, what), m.asks(o, what));
                break;
            case 8:
                check("asked(" + o + ", " + what + ")", x.asked(o, what), m.asked(o, what));
                break;
            case 9:
                check("open(" + o + ", " + hour + ")", x.open(o, hour), m.open(o, hour));
                break;
            case 10:
                check("opens(" + o + ", " + hour + ")", x.opens(o, hour), m.opens(o, hour));
                break;
            case 11:
                check("week(" + o + ")", x.week(o), m.week(o));
                break;
            case 12:
                int room = below(8) - 1;
                int other = below(8) - 1;
                check("walk(" + room + ", " + other + ")", x.walk(room, other), m.walk(room, other));
                break;
            case 13:
                check("permit", x.permit(), m.permit());
                break;
            case 14:
                check("now", x.now(), m.now());
                break;
            case 15:
                check("room", x.room(), m.room());
                break;
            case 16:
                check("held", x.held(), m.held());
                break;
            case 17:
                check("until(" + o + ")", x.until(o), m.until(o));
                break;
            case 18:
                check("when(" + o + ")", x.when(o), m.when(o));
                break;
            case 19:
                check("why(" + o + ")", x.why(o), m.why(o));
                break;
            case 20:
                check("can", x.can(), m.can());
                break;
            case 21:
                check("go(" + o + ")", x.go(o), m.go(o));
                break;
            case 22:
                check("waits(" + n + ")", x.waits(n), m.waits(n));
                break;
            case 23:
                check("undo", x.undo(), m.undo());
                break;
            case 24:
                if (below(3) == 0) {
                    check("anew", x.anew(), m.anew());
                }
                break;
            case 25:
                int i = below(8) - 1;
                check("led(" + i + ")", x.led(i), m.led(i));
                break;
            case 26:
                check("shoes", x.shoes(), m.shoes());
                break;
            case 27:
                check("paid", x.paid(), m.paid());
                break;
            default:
                check("done", x.done(), m.done());
                break;
        }
    }

    private void callRows(int kind) {
        int i = below(8) - 1;
        int o = who();
        int what = bit();
        switch (kind) {
            case 29:
                check("soonest", x.soonest(), m.soonest());
                break;
            case 30:
                check("step(" + i + ")", x.step(i), m.step(i));
                break;
            case 31:
                check("fewest", x.fewest(), m.fewest());
                break;
            case 32:
                check("least", x.least(), m.least());
                break;
            case 33:
                check("tread(" + i + ")", x.tread(i), m.tread(i));
                break;
            case 34:
                check("cheapest", x.cheapest(), m.cheapest());
                break;
            case 35:
                check("whom", x.whom(), m.whom());
                break;
            case 36:
                check("ways", x.ways(), m.ways());
                break;
            case 37:
                check("always(" + what + ")", x.always(what), m.always(what));
                break;
            case 38:
                check("slack(" + o + ")", x.slack(o), m.slack(o));
                break;
            case 39:
                if (officials < 5) {
                    check("start(" + what + ")", x.start(what), m.start(what));
                }
                break;
            case 40:
                check("forged(" + o + ")", x.forged(o), m.forged(o));
                break;
            default:
                check("fake", x.fake(), m.fake());
                break;
        }
    }

    private void callOrders(int kind) {
        int i = below(8) - 1;
        int o = who();
        int set = set();
        int slot = slot();
        int seed = seed();
        int n = drawn();
        int what = bit();
        int hour = hour();
        switch (kind) {
            case 42:
                check("possible(" + set + ")", x.possible(set), m.possible(set));
                break;
            case 43:
                check("sets", x.sets(), m.sets());
                break;
            case 44:
                check("never", x.never(), m.never());
                break;
            case 45:
                check("ring", x.ring(), m.ring());
                break;
            case 46:
                check("depth(" + o + ")", x.depth(o), m.depth(o));
                break;
            case 47:
                check("orders(" + set + ")", x.orders(set), m.orders(set));
                break;
            case 48:
                check("loose", x.loose(), m.loose());
                break;
            case 49:
                check("loosely(" + i + ")", x.loosely(i), m.loosely(i));
                break;
            case 50:
                check("parted", x.parted(), m.parted());
                break;
            case 51:
                layRow(slot);
                check("judge(" + slot + ")", x.judge(slot), m.judge(slot));
                break;
            case 52:
                layRow(slot);
                check("bribed(" + slot + ")", x.bribed(slot), m.bribed(slot));
                break;
            case 53:
                layRow(slot);
                check("run(" + slot + ")", x.run(slot), m.run(slot));
                break;
            case 54:
                layRow(slot);
                check("queue(" + slot + ", " + n + ")", x.queue(slot, n), m.queue(slot, n));
                break;
            case 55:
                layRow(slot);
                check("served(" + slot + ", " + hour + ")", x.served(slot, hour), m.served(slot, hour));
                break;
            case 56:
                layRow(slot);
                check("chair(" + slot + ")", x.chair(slot), m.chair(slot));
                break;
            case 57:
                check("blind(" + seed + ")", x.blind(seed), m.blind(seed));
                break;
            case 58:
                check("tries(" + seed + ")", x.tries(seed), m.tries(seed));
                break;
            case 59:
                check("luck(" + seed + ", " + n + ")", x.luck(seed, n), m.luck(seed, n));
                break;
            default:
                check("worth(" + seed + ", " + n + ", " + what + ")", x.worth(seed, n, what), m.worth(seed, n, what));
                break;
        }
    }

    /** Often a row of OFFICIALS, unlike ones or not, now and then a number that is none. */
    private void layRow(int slot) {
        if (below(6) == 0 || slot < 0 || slot > 3) {
            return;
        }
        int n = below(4) == 0 ? below(10) : below(officials + 1);
        int width = below(4);
        check("row(" + slot + ", " + width + ", " + n + ")", x.row(slot, width, n), m.row(slot, width, n));
        int used = 0;
        boolean unlike = below(3) > 0;
        for (int i = 0; i < n; i++) {
            int o = below(60) == 0 ? below(12) - 1 : below(Math.max(1, officials));
            if (!unlike || (used >> Math.max(0, o) & 1) == 0) {
                used |= 1 << Math.max(0, o);
                check("write(" + slot + ", " + i + ", " + o + ")", x.write(slot, i, o), m.write(slot, i, o));
            }
        }
    }

    private void callChange(int kind) {
        int o = who();
        int slot = slot();
        int k = below(6) == 0 ? below(6) - 1 : below(3);
        switch (kind) {
            case 61:
                int other = who();
                int what = bit();
                int is = bit();
                check("ask(" + o + ", " + other + ", " + what + ", " + is + ")",
                        x.ask(o, other, what, is), m.ask(o, other, what, is));
                break;
            case 62:
                int from = below(9) - 1;
                int to = below(5) == 0 ? -1 : from + below(4);
                check("leave(" + o + ", " + from + ", " + to + ")", x.leave(o, from, to), m.leave(o, from, to));
                break;
            case 63:
                int set = set();
                check("wants(" + set + ")", x.wants(set), m.wants(set));
                break;
            case 64:
                int count = below(11) - 1;
                check("count(" + count + ")", x.count(count), m.count(count));
                break;
            case 65:
                check("keep(" + k + ")", x.keep(k), m.keep(k));
                break;
            case 66:
                check("back(" + k + ")", x.back(k), m.back(k));
                officials = Math.max(0, Math.min(8, x.count(0)));
                break;
            case 67:
                int width = below(6) - 1;
                int n = below(70) - 3;
                check("row(" + slot + ", " + width + ", " + n + ")", x.row(slot, width, n), m.row(slot, width, n));
                break;
            case 68:
                int i = below(8) - 1;
                long v = below(3) == 0 ? random.nextLong() : (long) below(5) << 8 * below(5) | below(4);
                check("write(" + slot + ", " + i + ", " + v + ")", x.write(slot, i, v), m.write(slot, i, v));
                break;
            default:
                int there = slot();
                int at = below(5) - 1;
                int to2 = below(5) - 1;
                int many = below(6) - 1;
                check("paste(" + slot + ", " + at + ", " + there + ", " + to2 + ", " + many + ")",
                        x.paste(slot, at, there, to2, many), m.paste(slot, at, there, to2, many));
                break;
        }
    }

    // ---- texts

    private String office(int many) {
        StringBuilder s = new StringBuilder();
        int rooms = 1 + below(6);
        int at = below(4) == 0 ? below(400) : below(30);
        s.append("office rooms ").append(rooms).append(" in ").append(below(rooms)).append(" at ").append(at).append(";");
        for (int i = 0; i < many; i++) {
            official(s, rooms);
        }
        int ways = rooms < 2 ? 0 : rooms + below(5);
        for (int i = 0; i < ways; i++) {
            int room = below(rooms);
            int other = (room + 1 + below(rooms - 1)) % rooms;
            s.append("way ").append(room).append(' ').append(other).append(' ').append(1 + below(9)).append(";\n");
        }
        askings(s, many);
        if (many > 0) {
            for (int i = below(3); i > 0; i--) {
                int from = below(below(3) == 0 ? 40 : 5);
                s.append("leave ").append(below(many)).append(" from ").append(from).append(" to ");
                s.append(Math.min(39, from + below(5))).append(";");
            }
            permits(s, many);
        }
        return s.toString();
    }

    private void official(StringBuilder s, int rooms) {
        boolean wide = below(2) == 0;
        int from = wide ? 0 : below(10);
        int to = wide ? 9 : from + below(Math.min(4, 10 - from));
        s.append("official room ").append(below(rooms)).append(" from ").append(from).append(" to ").append(to);
        s.append(" days ").append(below(2) == 0 ? 31 : 1 + below(31));
        for (int mark : new int[] {below(6), 3 + below(6), 6 + below(4)}) {
            if (mark == 2) {
                s.append(" lunch ").append(below(10));
            } else if (mark == 3 || mark == 4 || mark == 5) {
                if (s.lastIndexOf("fades") < s.lastIndexOf("official")) {
                    s.append(" fades ").append(below(8) == 0 ? 1 + below(20) : 1 + below(3));
                }
            } else if (mark >= 6 && s.lastIndexOf("price") < s.lastIndexOf("official")) {
                s.append(" price ").append(below(4) == 0 ? below(100) : below(10));
            }
        }
        s.append(";\n");
    }

    private void askings(StringBuilder s, int many) {
        boolean[] told = new boolean[200];
        int asked = many < 2 ? 0 : below(2 * many);
        for (int i = 0; i < asked; i++) {
            int o = below(many);
            int other = (o + 1 + below(many - 1)) % many;
            if (below(3) > 0 && other > o) {
                int swap = o;
                o = other;
                other = swap;
            }
            int what = below(3) == 0 ? 1 : 0;
            int code = 100 * what + 10 * o + other;
            if (!told[code]) {
                told[code] = true;
                s.append(what == 0 ? "needs " : "bars ").append(o).append(' ').append(other).append("; ");
            }
        }
    }

    private void permits(StringBuilder s, int many) {
        for (int i = below(5) == 0 ? below(3) : 1; i > 0; i--) {
            s.append("permit");
            for (int j = 1 + below(3); j > 0; j--) {
                s.append(' ').append(below(many));
            }
            s.append(';');
        }
    }

    private void spoiltTexts(int seed) {
        for (int i = 0; i < 15 && !CHECK.isWrong(); i++) {
            String text = office(below(10));
            for (int j = below(3); j >= 0; j--) {
                text = spoil(text);
            }
            tell(text.length() > 1580 ? text.substring(0, 1580) : text);
            check("lines", x.count(4), m.count(4));
            if (x.count(4) > 0 && below(20) == 0) {
                x = new StampOrder();
                m = new PlainOffice();
            }
        }
        if (CHECK.isWrong()) {
            System.out.println("seed " + seed + ":\n" + trail);
        }
    }

    private String spoil(String text) {
        StringBuilder s = new StringBuilder(text);
        int at = below(s.length() + 1);
        String[] words = {"office", "official", "room", "rooms", "needs 0 1;", "bars", "leave", "permit", "lunch 3",
            "fades 2", "price 1", "way", "from", "to", "days", ";", "0", "1", "9", "99", " ", "\n", "#", "\0", "x"};
        switch (below(5)) {
            case 0:
                s.insert(at, words[below(words.length)]);
                break;
            case 1:
                s.insert(at, " " + words[below(words.length)] + " ");
                break;
            case 2:
                s.delete(at, Math.min(s.length(), at + 1 + below(6)));
                break;
            case 3:
                if (at < s.length()) {
                    s.setCharAt(at, (char) below(256));
                }
                break;
            default:
                if (at < s.length() && s.charAt(at) >= '0' && s.charAt(at) <= '9') {
                    s.setCharAt(at, (char) ('0' + below(10)));
                } else {
                    s.setLength(Math.max(at, s.length() - below(10)));
                }
                break;
        }
        return s.toString();
    }
}
