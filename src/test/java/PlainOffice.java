import java.util.ArrayList;
import java.util.Collections;
import java.util.Comparator;
import java.util.HashMap;
import java.util.HashSet;
import java.util.List;
import java.util.Map;
import java.util.Set;
import java.util.TreeSet;
import java.util.regex.Matcher;
import java.util.regex.Pattern;

/** The document told once more, slowly: it looks at every HOUR, lists every row, tries every order. */
final class PlainOffice {
    private static final int NONE = -1;

    private static final class Fault extends RuntimeException {
        private static final long serialVersionUID = 1;
        final int kind;
        final int place;

        Fault(int kind, int place) {
            this.kind = kind;
            this.place = place;
        }
    }

    private static final class Official {
        int room;
        int opens;
        int shuts;
        int days;
        int lunch = NONE;
        int fades = NONE;
        int price = NONE;
        int leaveFrom = NONE;
        int leaveTo = NONE;
        Set<Integer> needs = new TreeSet<>();
        Set<Integer> bars = new TreeSet<>();

        Official copy() {
            Official o = new Official();
            o.room = room;
            o.opens = opens;
            o.shuts = shuts;
            o.days = days;
            o.lunch = lunch;
            o.fades = fades;
            o.price = price;
            o.leaveFrom = leaveFrom;
            o.leaveTo = leaveTo;
            o.needs.addAll(needs);
            o.bars.addAll(bars);
            return o;
        }

        Set<Integer> asked(int what) {
            return what == 0 ? needs : bars;
        }
    }

    private static final class World {
        int lines;
        int rooms;
        int startRoom;
        int startHour;
        List<Official> officials = new ArrayList<>();
        Map<Integer, Integer> ways = new HashMap<>();
        Set<Integer> permit = new TreeSet<>();
        List<Integer> led = new ArrayList<>();

        World copy() {
            World w = new World();
            w.lines = lines;
            w.rooms = rooms;
            w.startRoom = startRoom;
            w.startHour = startHour;
            for (Official o : officials) {
                w.officials.add(o.copy());
            }
            w.ways.putAll(ways);
            w.permit.addAll(permit);
            w.led.addAll(led);
            return w;
        }
    }

    /** One who goes: every STAMP ever had, as {official, hour}. */
    private final class Person {
        int hour = world.startHour;
        int room = world.startRoom;
        int walked;
        int paid;
        List<int[]> stamps = new ArrayList<>();
        Set<Integer> forged = new TreeSet<>();

        Person copy() {
            Person p = new Person();
            p.hour = hour;
            p.room = room;
            p.walked = walked;
            p.paid = paid;
            p.stamps.addAll(stamps);
            p.forged.addAll(forged);
            return p;
        }

        boolean holds(int o, int at) {
            if (forged.contains(o)) {
                return true;
            }
            int fades = world.officials.get(o).fades;
            for (int[] s : stamps) {
                if (s[0] == o && at >= s[1] + 1 && (fades == NONE || at <= s[1] + 10 * fades)) {
                    return true;
                }
            }
            return false;
        }

        boolean holdsAll(Set<Integer> set, int at) {
            for (int o : set) {
                if (!holds(o, at)) {
                    return false;
                }
            }
            return true;
        }

        boolean holdsAny(Set<Integer> set, int at) {
            for (int o : set) {
                if (holds(o, at)) {
                    return true;
                }
            }
            return false;
        }

        int why(int o, Set<Integer> taken) {
            Official official = world.officials.get(o);
            if (holds(o, hour)) {
                return 1;
            }
            int walk = walk(room, official.room);
            if (walk < 0) {
                return 2;
            }
            int why = 3;
            for (int at = hour + walk; at < 400; at++) {
                if (isOpen(o, at) && !taken.contains(1000 * o + at)) {
                    why = Math.max(why, 4);
                    if (holdsAll(official.needs, at)) {
                        why = 5;
                        if (!holdsAny(official.bars, at)) {
                            return 0;
                        }
                    }
                }
            }
            return why;
        }

        int when(int o, Set<Integer> taken) {
            if (why(o, taken) != 0) {
                return NONE;
            }
            Official official = world.officials.get(o);
            int at = hour + walk(room, official.room);
            while (!isOpen(o, at) || taken.contains(1000 * o + at)
                    || !holdsAll(official.needs, at) || holdsAny(official.bars, at)) {
                at++;
            }
            return at;
        }

        void stamp(int o, int at) {
            Official official = world.officials.get(o);
            walked += walk(room, official.room);
            paid += official.price;
            room = official.room;
            hour = at + 1;
            stamps.add(new int[] {o, at});
        }

        boolean isDone() {
            return holdsAll(world.permit, hour);
        }
    }

    private static final class Row {
        List<Integer> officials;
        int done;
        int walked;
        int price;
        List<int[]> stamps;
    }

    private static final Set<Integer> FREE = Collections.emptySet();

    private final StringBuilder tape = new StringBuilder();
    private World world = new World();
    private int faultKind;
    private int faultPlace = NONE;
    private final World[] images = new World[3];
    private final long[][] slots = new long[4][];
    private final int[] widths = new int[4];

    // ---- the text

    int feed(int a, int b, int c, int d, int e) {
        if (tape.length() + 20 > 1600) {
            return NONE;
        }
        for (int number : new int[] {a, b, c, d, e}) {
            tape.append((char) (number >>> 24)).append((char) (number >>> 16 & 255));
            tape.append((char) (number >>> 8 & 255)).append((char) (number & 255));
        }
        return tape.length();
    }

    int end(int n) {
        if (n < 0 || n > tape.length()) {
            return NONE;
        }
        tape.setLength(n);
        return n;
    }

    private static final class Token {
        String text;
        int place;
    }

    private final class Parser {
        final List<Token> tokens = new ArrayList<>();
        final World told = new World();
        int at;

        Parser(String text) {
            Matcher m = Pattern.compile("[a-z]+|[0-9]+|[^ \n]", Pattern.DOTALL).matcher(text);
            while (m.find()) {
                Token t = new Token();
                t.text = m.group();
                t.place = m.start();
                tokens.add(t);
            }
            Token end = new Token();
            end.text = "";
            end.place = text.length();
            tokens.add(end);
        }

        String peek() {
            return tokens.get(at).text;
        }

        int place() {
            return tokens.get(at).place;
        }

        void word(String w) {
            if (!peek().equals(w)) {
                throw new Fault(1, place());
            }
            at++;
        }

        boolean isNumber() {
            return peek().matches("[0-9]+");
        }

        int number(int least, int most) {
            if (!isNumber()) {
                throw new Fault(1, place());
            }
            java.math.BigInteger value = new java.math.BigInteger(peek());
            if (value.compareTo(java.math.BigInteger.valueOf(least)) < 0
                    || value.compareTo(java.math.BigInteger.valueOf(most)) > 0) {
                throw new Fault(2, place());
            }
            at++;
            return value.intValue();
        }

        int numberAfter(String w, int least, int most) {
            word(w);
            return number(least, most);
        }

        int one() {
            return number(0, told.officials.size() - 1);
        }

        void refuse(boolean wrong) {
            if (wrong) {
                throw new Fault(2, tokens.get(at - 1).place);
            }
        }

        World all() {
            while (!peek().isEmpty()) {
                line();
                word(";");
                told.lines++;
            }
            return told;
        }

        void line() {
            if (peek().equals("office") != (told.lines == 0)) {
                throw new Fault(1, place());
            }
            switch (peek()) {
                case "office":
                    at++;
                    told.rooms = numberAfter("rooms", 1, 6);
                    told.startRoom = numberAfter("in", 0, told.rooms - 1);
                    told.startHour = numberAfter("at", 0, 399);
                    break;
                case "official":
                    official();
                    break;
                case "way":
                    at++;
                    int a = number(0, told.rooms - 1);
                    int b = number(0, told.rooms - 1);
                    refuse(a == b);
                    int hours = number(1, 9);
                    told.ways.put(10 * a + b, hours);
                    told.ways.put(10 * b + a, hours);
                    break;
                case "needs":
                case "bars":
                    int what = peek().equals("needs") ? 0 : 1;
                    at++;
                    int o = one();
                    int other = one();
                    refuse(o == other || !told.officials.get(o).asked(what).add(other));
                    break;
                case "leave":
                    at++;
                    Official away = told.officials.get(one());
                    int from = numberAfter("from", 0, 39);
                    away.leaveTo = numberAfter("to", from, 39);
                    away.leaveFrom = from;
                    break;
                case "permit":
                    at++;
                    told.permit.clear();
                    do {
                        told.permit.add(one());
                    } while (isNumber());
                    break;
                default:
                    throw new Fault(1, place());
            }
        }

        void official() {
            if (told.officials.size() == 8) {
                throw new Fault(3, place());
            }
            at++;
            Official o = new Official();
            o.room = numberAfter("room", 0, told.rooms - 1);
            o.opens = numberAfter("from", 0, 9);
            o.shuts = numberAfter("to", o.opens, 9);
            o.days = numberAfter("days", 1, 31);
            while (true) {
                if (peek().equals("lunch") && o.lunch == NONE) {
                    o.lunch = numberAfter("lunch", 0, 9);
                } else if (peek().equals("fades") && o.fades == NONE) {
                    o.fades = numberAfter("fades", 1, 20);
                } else if (peek().equals("price") && o.price == NONE) {
                    o.price = numberAfter("price", 0, 99);
                } else {
                    break;
                }
            }
            o.price = Math.max(o.price, 0);
            told.officials.add(o);
        }
    }

    int office() {
        String text = tape.toString();
        tape.setLength(0);
        try {
            world = new Parser(text).all();
            faultKind = 0;
            faultPlace = NONE;
            return world.lines;
        } catch (Fault f) {
            faultKind = f.kind;
            faultPlace = f.place;
            return -4;
        }
    }

    int fault(int what) {
        return what == 0 ? faultKind : what == 1 ? faultPlace : NONE;
    }

    // ---- what is there

    private boolean is(int official) {
        return official >= 0 && official < world.officials.size();
    }

    private boolean isSet(int set) {
        return world.lines > 0 && set >= 0 && set < 1 << world.officials.size();
    }

    private static int bits(Iterable<Integer> set) {
        int bits = 0;
        for (int i : set) {
            bits |= 1 << i;
        }
        return bits;
    }

    private static Set<Integer> members(int bits) {
        Set<Integer> set = new TreeSet<>();
        for (int i = 0; i < 8; i++) {
            if ((bits & 1 << i) != 0) {
                set.add(i);
            }
        }
        return set;
    }

    private boolean isOpen(int o, int hour) {
        Official official = world.officials.get(o);
        int day = hour / 10;
        boolean away = official.leaveFrom != NONE && official.leaveFrom <= day && day <= official.leaveTo;
        return !away && inHours(official, hour);
    }

    private static boolean inHours(Official official, int hour) {
        return (official.days >> hour / 10 % 5 & 1) == 1
                && hour % 10 >= official.opens && hour % 10 <= official.shuts && hour % 10 != official.lunch;
    }

    int official(int o, int what) {
        if (!is(o) || what < 0 || what > 8) {
            return -2;
        }
        Official f = world.officials.get(o);
        return new int[] {f.room, f.opens, f.shuts, f.days, f.lunch, f.fades, f.price, f.leaveFrom, f.leaveTo}[what];
    }

    int asks(int o, int what) {
        return is(o) && (what == 0 || what == 1) ? bits(world.officials.get(o).asked(what)) : -2;
    }

    int asked(int o, int what) {
        if (!is(o) || what != 0 && what != 1) {
            return -2;
        }
        Set<Integer> who = new TreeSet<>();
        for (int i = 0; i < world.officials.size(); i++) {
            if (world.officials.get(i).asked(what).contains(o)) {
                who.add(i);
            }
        }
        return bits(who);
    }

    int open(int o, int hour) {
        return !is(o) || hour < 0 || hour > 399 ? -2 : isOpen(o, hour) ? 1 : 0;
    }

    int opens(int o, int hour) {
        if (!is(o) || hour < 0 || hour > 399) {
            return -2;
        }
        for (int h = hour; h < 400; h++) {
            if (isOpen(o, h)) {
                return h;
            }
        }
        return NONE;
    }

    int week(int o) {
        if (!is(o)) {
            return -2;
        }
        int many = 0;
        for (int h = 0; h < 50; h++) {
            many += inHours(world.officials.get(o), h) ? 1 : 0;
        }
        return many;
    }

    /** Spreads from one room, hour by hour. */
    int walk(int room, int other) {
        if (room < 0 || other < 0 || room >= world.rooms || other >= world.rooms) {
            return -2;
        }
        Set<Integer> there = new HashSet<>(Set.of(room));
        Map<Integer, Set<Integer>> arriving = new HashMap<>();
        for (int hour = 0; hour <= 60; hour++) {
            Set<Integer> now = arriving.getOrDefault(hour, new HashSet<>());
            if (hour == 0) {
                now.add(room);
            }
            for (int r : now) {
                there.add(r);
                for (int to = 0; to < world.rooms; to++) {
                    Integer way = world.ways.get(10 * r + to);
                    if (way != null && !there.contains(to)) {
                        arriving.computeIfAbsent(hour + way, k -> new HashSet<>()).add(to);
                    }
                }
            }
            if (there.contains(other)) {
                return hour;
            }
        }
        return NONE;
    }

    int permit() {
        return world.lines == 0 ? -2 : bits(world.permit);
    }

    // ---- going

    private Person person() {
        Person p = new Person();
        for (int move : world.led) {
            if (move >= 10) {
                p.hour += move - 10;
            } else {
                p.stamp(move, p.when(move, FREE));
            }
        }
        return p;
    }

    int now() {
        return world.lines == 0 ? -2 : person().hour;
    }

    int room() {
        return world.lines == 0 ? -2 : person().room;
    }

    private Set<Integer> heldBy(Person p) {
        Set<Integer> held = new TreeSet<>();
        for (int i = 0; i < world.officials.size(); i++) {
            if (p.holds(i, p.hour)) {
                held.add(i);
            }
        }
        return held;
    }

    int held() {
        return world.lines == 0 ? -2 : bits(heldBy(person()));
    }

    int until(int o) {
        if (!is(o)) {
            return -2;
        }
        Person p = person();
        if (!p.holds(o, p.hour) || world.officials.get(o).fades == NONE) {
            return NONE;
        }
        int last = p.hour;
        while (p.holds(o, last + 1)) {
            last++;
        }
        return last;
    }

    int when(int o) {
        return is(o) ? person().when(o, FREE) : -2;
    }

    int why(int o) {
        return is(o) ? person().why(o, FREE) : -2;
    }

    private Set<Integer> willing(Person p) {
        Set<Integer> set = new TreeSet<>();
        for (int i = 0; i < world.officials.size(); i++) {
            if (p.when(i, FREE) != NONE) {
                set.add(i);
            }
        }
        return set;
    }

    int can() {
        return world.lines == 0 ? -2 : bits(willing(person()));
    }

    int go(int o) {
        if (!is(o)) {
            return -2;
        }
        int at = person().when(o, FREE);
        if (at == NONE || world.led.size() == 40) {
            return -5;
        }
        world.led.add(o);
        return at;
    }

    int waits(int n) {
        if (world.lines == 0 || n < 1 || n > 99) {
            return -2;
        }
        int then = person().hour + n;
        if (then > 400 || world.led.size() == 40) {
            return -5;
        }
        world.led.add(10 + n);
        return then;
    }

    int undo() {
        if (world.lines == 0) {
            return -2;
        }
        if (world.led.isEmpty()) {
            return -5;
        }
        world.led.remove(world.led.size() - 1);
        return world.led.size();
    }

    int anew() {
        if (world.lines == 0) {
            return -2;
        }
        int were = world.led.size();
        world.led.clear();
        return were;
    }

    int led(int i) {
        return world.lines == 0 ? -2 : i >= 0 && i < world.led.size() ? world.led.get(i) : NONE;
    }

    int shoes() {
        return world.lines == 0 ? -2 : person().walked;
    }

    int paid() {
        return world.lines == 0 ? -2 : person().paid;
    }

    int done() {
        return world.lines == 0 ? -2 : person().isDone() ? 1 : 0;
    }

    // ---- rows

    private List<Row> rows(Person from) {
        List<Row> rows = new ArrayList<>();
        Person p = from.copy();
        p.walked = 0;
        p.paid = 0;
        rowsOn(p, heldBy(p), new ArrayList<>(), rows);
        return rows;
    }

    private void rowsOn(Person p, Set<Integer> aside, List<Integer> so, List<Row> rows) {
        if (p.isDone()) {
            Row row = new Row();
            row.officials = new ArrayList<>(so);
            row.done = p.hour;
            row.walked = p.walked;
            row.price = p.paid;
            row.stamps = p.stamps;
            rows.add(row);
            return;
        }
        // from the last one down, so that the order in which they are found is of no help
        for (int i = world.officials.size() - 1; i >= 0; i--) {
            int at = aside.contains(i) || so.contains(i) ? NONE : p.when(i, FREE);
            if (at != NONE) {
                Person then = p.copy();
                then.stamp(i, at);
                so.add(i);
                rowsOn(then, aside, so, rows);
                so.remove(so.size() - 1);
            }
        }
    }

    private static int compareRows(Row a, Row b) {
        if (a.officials.size() != b.officials.size()) {
            return a.officials.size() - b.officials.size();
        }
        for (int i = 0; i < a.officials.size(); i++) {
            if (!a.officials.get(i).equals(b.officials.get(i))) {
                return a.officials.get(i) - b.officials.get(i);
            }
        }
        return 0;
    }

    private static Row first(List<Row> rows, Comparator<Row> by) {
        return rows.isEmpty() ? null : Collections.min(rows, by.thenComparing(PlainOffice::compareRows));
    }

    private Row soonestRow(Person from) {
        return first(rows(from), Comparator.comparingInt(r -> r.done));
    }

    private Row leastRow() {
        return first(rows(person()), Comparator.comparingInt(r -> r.walked));
    }

    private Row cheapestRow() {
        return first(rows(person()), Comparator.comparingInt(r -> r.price));
    }

    private static int at(Row row, int i) {
        return row == null || i < 0 || i >= row.officials.size() ? NONE : row.officials.get(i);
    }

    int soonest() {
        if (world.lines == 0) {
            return -2;
        }
        Row row = soonestRow(person());
        return row == null ? NONE : row.done;
    }

    int step(int i) {
        return world.lines == 0 ? -2 : at(soonestRow(person()), i);
    }

    int fewest() {
        if (world.lines == 0) {
            return -2;
        }
        Row row = first(rows(person()), Comparator.comparingInt(r -> r.officials.size()));
        return row == null ? NONE : row.officials.size();
    }

    int least() {
        if (world.lines == 0) {
            return -2;
        }
        Row row = leastRow();
        return row == null ? NONE : row.walked;
    }

    int tread(int i) {
        return world.lines == 0 ? -2 : at(leastRow(), i);
    }

    int cheapest() {
        if (world.lines == 0) {
            return -2;
        }
        Row row = cheapestRow();
        return row == null ? NONE : row.price;
    }

    int whom() {
        if (world.lines == 0) {
            return -2;
        }
        Row row = cheapestRow();
        return row == null ? NONE : bits(row.officials);
    }

    int ways() {
        return world.lines == 0 ? -2 : rows(person()).size();
    }

    int always(int what) {
        if (world.lines == 0 || what != 0 && what != 1) {
            return -2;
        }
        List<Row> rows = rows(person());
        if (rows.isEmpty()) {
            return 0;
        }
        Set<Integer> set = new TreeSet<>(rows.get(0).officials);
        for (Row row : rows) {
            if (what == 0) {
                set.retainAll(row.officials);
            } else {
                set.addAll(row.officials);
            }
        }
        return bits(set);
    }

    int slack(int o) {
        if (!is(o)) {
            return -2;
        }
        Row row = soonestRow(person());
        int fades = world.officials.get(o).fades;
        if (row == null || !row.officials.contains(o) || fades == NONE) {
            return NONE;
        }
        int longer = NONE;
        for (int[] s : row.stamps) {
            if (s[0] == o) {
                longer = s[1] + 10 * fades - row.done;
            }
        }
        return longer < 0 ? NONE : longer;
    }

    int start(int what) {
        if (world.lines == 0 || what != 0 && what != 1) {
            return -2;
        }
        List<int[]> takes = new ArrayList<>();
        for (int h = 0; h < 50; h++) {
            Person p = new Person();
            p.hour = h;
            Row row = soonestRow(p);
            if (row != null) {
                takes.add(new int[] {row.done - h, h});
            }
        }
        if (takes.isEmpty()) {
            return NONE;
        }
        int[] best = Collections.min(takes, Comparator.<int[]>comparingInt(t -> t[0]).thenComparingInt(t -> t[1]));
        return what == 0 ? best[1] : best[0];
    }

    int forged(int o) {
        if (!is(o)) {
            return -2000;
        }
        Person p = person();
        p.forged.add(o);
        Row with = soonestRow(p);
        Row without = soonestRow(person());
        return with == null || without == null ? -1000 : without.done - with.done;
    }

    int fake() {
        if (world.lines == 0) {
            return -2;
        }
        int best = NONE;
        for (int i = world.officials.size() - 1; i >= 0; i--) {
            if (forged(i) > 0 && (best == NONE || forged(i) >= forged(best))) {
                best = i;
            }
        }
        return best;
    }

    // ---- sets: every order is tried

    private long ordersOf(Set<Integer> left, Set<Integer> ahead) {
        if (left.isEmpty()) {
            return 1;
        }
        long sum = 0;
        for (int o : left) {
            Official official = world.officials.get(o);
            if (ahead.containsAll(official.needs) && Collections.disjoint(ahead, official.bars)) {
                Set<Integer> then = new TreeSet<>(left);
                then.remove(o);
                Set<Integer> done = new TreeSet<>(ahead);
                done.add(o);
                sum += ordersOf(then, done);
            }
        }
        return sum;
    }

    long orders(int set) {
        return isSet(set) ? ordersOf(members(set), new TreeSet<>()) : -2;
    }

    int possible(int set) {
        return isSet(set) ? orders(set) > 0 ? 1 : 0 : -2;
    }

    int sets() {
        if (world.lines == 0) {
            return -2;
        }
        int many = 0;
        for (int set = 0; isSet(set); set++) {
            many += possible(set);
        }
        return many;
    }

    int never() {
        if (world.lines == 0) {
            return -2;
        }
        int never = (1 << world.officials.size()) - 1;
        for (int set = 0; isSet(set); set++) {
            if (possible(set) == 1) {
                never &= ~set;
            }
        }
        return never;
    }

    /** The longest chain of NEEDS from one on; a large number with a round. */
    private int chain(int o, List<Integer> chain) {
        if (chain.contains(o)) {
            return 1000;
        }
        chain.add(o);
        int longest = 0;
        for (int other : world.officials.get(o).needs) {
            longest = Math.max(longest, chain(other, chain));
        }
        chain.remove(chain.size() - 1);
        return longest + 1;
    }

    private boolean leadsTo(int o, int goal, Set<Integer> seen) {
        for (int other : world.officials.get(o).needs) {
            if (other == goal || seen.add(other) && leadsTo(other, goal, seen)) {
                return true;
            }
        }
        return false;
    }

    int ring() {
        if (world.lines == 0) {
            return -2;
        }
        Set<Integer> round = new TreeSet<>();
        for (int i = 0; i < world.officials.size(); i++) {
            if (leadsTo(i, i, new HashSet<>())) {
                round.add(i);
            }
        }
        return bits(round);
    }

    int depth(int o) {
        if (!is(o)) {
            return -2;
        }
        int depth = chain(o, new ArrayList<>());
        return depth >= 1000 ? NONE : depth;
    }

    private void looseOn(List<Integer> so, int cost, List<List<Integer>> orders, List<Integer> costs) {
        if (so.containsAll(world.permit)) {
            orders.add(new ArrayList<>(so));
            costs.add(cost);
            return;
        }
        for (int i = 0; i < world.officials.size(); i++) {
            if (!so.contains(i)) {
                int more = 0;
                for (int other : world.officials.get(i).needs) {
                    more += so.contains(other) ? 0 : 1;
                }
                for (int other : world.officials.get(i).bars) {
                    more += so.contains(other) ? 1 : 0;
                }
                so.add(i);
                looseOn(so, cost + more, orders, costs);
                so.remove(so.size() - 1);
            }
        }
    }

    private Row looseRow() {
        List<List<Integer>> orders = new ArrayList<>();
        List<Integer> costs = new ArrayList<>();
        looseOn(new ArrayList<>(), 0, orders, costs);
        List<Row> rows = new ArrayList<>();
        for (int i = 0; i < orders.size(); i++) {
            Row row = new Row();
            row.officials = orders.get(i);
            row.price = costs.get(i);
            rows.add(row);
        }
        return first(rows, Comparator.comparingInt(r -> r.price));
    }

    int loose() {
        return world.lines == 0 ? -2 : looseRow().price;
    }

    int loosely(int i) {
        return world.lines == 0 ? -2 : at(looseRow(), i);
    }

    private boolean canBeHad() {
        for (int set = 0; isSet(set); set++) {
            if (possible(set) == 1 && members(set).containsAll(world.permit)) {
                return true;
            }
        }
        return false;
    }

    int parted() {
        if (world.lines == 0) {
            return -2;
        }
        if (canBeHad()) {
            return NONE;
        }
        for (int code = 0; code < 200; code++) {
            int o = code / 10 % 10;
            int other = code % 10;
            if (is(o) && world.officials.get(o).asked(code / 100).remove(other)) {
                boolean had = canBeHad();
                world.officials.get(o).asked(code / 100).add(other);
                if (had) {
                    return code;
                }
            }
        }
        return NONE;
    }

    // ---- a slot's row

    private int refusal(int slot) {
        if (slot < 0 || slot > 3 || world.lines == 0) {
            return -2;
        }
        if (slots[slot] == null) {
            return -6;
        }
        for (long v : slots[slot]) {
            if (v < 0 || v >= world.officials.size()) {
                return -2;
            }
        }
        return 0;
    }

    private boolean isRight(int o, Set<Integer> ahead) {
        Official official = world.officials.get(o);
        return !ahead.contains(o) && ahead.containsAll(official.needs) && Collections.disjoint(ahead, official.bars);
    }

    int judge(int slot) {
        int refused = refusal(slot);
        if (refused != 0) {
            return refused;
        }
        Set<Integer> ahead = new TreeSet<>();
        for (long v : slots[slot]) {
            if (!isRight((int) v, ahead)) {
                return ahead.size();
            }
            ahead.add((int) v);
        }
        return ahead.size();
    }

    int bribed(int slot) {
        int refused = refusal(slot);
        if (refused != 0) {
            return refused;
        }
        Set<Integer> ahead = new TreeSet<>();
        Set<Integer> wrong = new TreeSet<>();
        for (long v : slots[slot]) {
            if (!isRight((int) v, ahead)) {
                wrong.add((int) v);
            }
            ahead.add((int) v);
        }
        return bits(wrong);
    }

    /** Those n go by the row: when each is through (NONE: never); waits are summed up per OFFICIAL. */
    private List<Integer> serve(int slot, int n, Map<Integer, Integer> waits) {
        Set<Integer> taken = new HashSet<>();
        List<Integer> through = new ArrayList<>();
        for (int i = 0; i < n; i++) {
            Person p = new Person();
            boolean gone = true;
            for (long v : slots[slot]) {
                int o = (int) v;
                int at = p.when(o, taken);
                if (at == NONE) {
                    gone = false;
                    break;
                }
                waits.merge(o, at - p.hour - walk(p.room, world.officials.get(o).room), Integer::sum);
                taken.add(1000 * o + at);
                p.stamp(o, at);
            }
            through.add(gone ? p.hour : NONE);
        }
        return through;
    }

    int run(int slot) {
        int refused = refusal(slot);
        return refused != 0 ? refused : serve(slot, 1, new HashMap<>()).get(0);
    }

    int queue(int slot, int n) {
        if (n < 1 || n > 9) {
            return -2;
        }
        int refused = refusal(slot);
        if (refused != 0) {
            return refused;
        }
        List<Integer> through = serve(slot, n, new HashMap<>());
        return through.contains(NONE) ? NONE : Collections.max(through);
    }

    int served(int slot, int hour) {
        if (hour < 0 || hour > 400) {
            return -2;
        }
        int refused = refusal(slot);
        if (refused != 0) {
            return refused;
        }
        return (int) serve(slot, 9, new HashMap<>()).stream().filter(h -> h != NONE && h <= hour).count();
    }

    int chair(int slot) {
        int refused = refusal(slot);
        if (refused != 0) {
            return refused;
        }
        Map<Integer, Integer> waits = new HashMap<>();
        List<Integer> through = serve(slot, 9, waits);
        if (through.contains(NONE) || waits.isEmpty()) {
            return NONE;
        }
        int most = Collections.max(waits.values());
        return waits.keySet().stream().filter(o -> waits.get(o) == most).min(Comparator.naturalOrder()).get();
    }

    // ---- blind

    /** {the HOUR in which it is DONE or NONE, how many were gone to}. */
    private int[] blindly(int seed) {
        java.math.BigInteger x = java.math.BigInteger.valueOf(seed);
        Person p = person();
        Set<Integer> aside = heldBy(p);
        int tries = 0;
        while (!p.isDone()) {
            List<Integer> willing = new ArrayList<>(willing(p));
            willing.removeAll(aside);
            if (willing.isEmpty()) {
                return new int[] {NONE, tries};
            }
            x = x.multiply(java.math.BigInteger.valueOf(1103515245)).add(java.math.BigInteger.valueOf(12345))
                    .mod(java.math.BigInteger.valueOf(2147483648L));
            int o = willing.get((int) (x.longValue() / 65536 % willing.size()));
            p.stamp(o, p.when(o, FREE));
            aside.add(o);
            tries++;
        }
        return new int[] {p.hour, tries};
    }

    private boolean isSeed(int seed) {
        return world.lines > 0 && seed >= 0 && seed <= 2000000000;
    }

    int blind(int seed) {
        return isSeed(seed) ? blindly(seed)[0] : -2;
    }

    int tries(int seed) {
        return isSeed(seed) ? blindly(seed)[1] : -2;
    }

    int luck(int seed, int n) {
        if (!isSeed(seed) || n < 1 || n > 20) {
            return -2;
        }
        int lucky = 0;
        for (int i = 0; i < n; i++) {
            lucky += blindly(seed + i)[0] == NONE ? 0 : 1;
        }
        return lucky;
    }

    int worth(int seed, int n, int what) {
        if (!isSeed(seed) || n < 1 || n > 20 || what != 0 && what != 1) {
            return -2;
        }
        int lucky = luck(seed, n);
        if (lucky == 0) {
            return NONE;
        }
        int hours = 0;
        for (int i = 0; i < n; i++) {
            int hour = blindly(seed + i)[0];
            hours += hour == NONE ? 0 : hour - soonest();
        }
        int common = java.math.BigInteger.valueOf(hours).gcd(java.math.BigInteger.valueOf(lucky)).intValue();
        return what == 0 ? hours / common : lucky / common;
    }

    // ---- changes

    int ask(int o, int other, int what, int is) {
        if (!is(o) || !is(other) || o == other || what < 0 || what > 1 || is < 0 || is > 1) {
            return -2;
        }
        if (!world.led.isEmpty()) {
            return -5;
        }
        Set<Integer> asked = world.officials.get(o).asked(what);
        boolean was = is == 1 ? !asked.add(other) : asked.remove(other);
        return was ? 1 : 0;
    }

    int leave(int o, int from, int to) {
        boolean never = from == NONE && to == NONE;
        if (!is(o) || !never && (from < 0 || to < from || to > 39)) {
            return -2;
        }
        if (!world.led.isEmpty()) {
            return -5;
        }
        world.officials.get(o).leaveFrom = from;
        world.officials.get(o).leaveTo = to;
        return 0;
    }

    int wants(int set) {
        if (!isSet(set)) {
            return -2;
        }
        int was = bits(world.permit);
        world.permit = members(set);
        return was;
    }

    int count(int what) {
        int needs = 0;
        int bars = 0;
        for (Official o : world.officials) {
            needs += o.needs.size();
            bars += o.bars.size();
        }
        int rows = 0;
        for (long[] slot : slots) {
            rows += slot == null ? 0 : 1;
        }
        int[] counts = {world.officials.size(), world.rooms, needs, bars, world.lines, tape.length(),
            world.led.size(), world.startHour, rows};
        return what >= 0 && what < counts.length ? counts[what] : NONE;
    }

    int keep(int k) {
        if (k < 0 || k > 2) {
            return -2;
        }
        images[k] = world.copy();
        return 0;
    }

    int back(int k) {
        if (k < 0 || k > 2) {
            return -2;
        }
        if (images[k] == null) {
            return -6;
        }
        world = images[k].copy();
        return 0;
    }

    int row(int slot, int width, int n) {
        if (slot < 0 || slot > 3 || width < 0 || width > 3 || n > 60) {
            return -2;
        }
        if (n < 0) {
            return -3;
        }
        slots[slot] = new long[n];
        widths[slot] = width;
        return 0;
    }

    int write(int slot, int i, long v) {
        if (slot < 0 || slot > 3) {
            return -2;
        }
        if (slots[slot] == null) {
            return -6;
        }
        if (i < 0 || i >= slots[slot].length) {
            return -7;
        }
        slots[slot][i] = widths[slot] == 3 ? v : v & (1L << (8 << widths[slot])) - 1;
        return 0;
    }

    int paste(int slot, int i, int to, int k, int n) {
        if (slot < 0 || slot > 3 || to < 0 || to > 3) {
            return -2;
        }
        if (slots[slot] == null || slots[to] == null) {
            return -6;
        }
        if (widths[slot] != widths[to]) {
            return -8;
        }
        if (i < 0 || k < 0 || n < 0 || (long) i + n > slots[slot].length || (long) k + n > slots[to].length) {
            return -7;
        }
        long[] were = slots[slot].clone();
        for (int j = 0; j < n; j++) {
            slots[to][k + j] = were[i + j];
        }
        return 0;
    }
}
