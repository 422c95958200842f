import java.math.BigInteger;
import java.util.ArrayList;
import java.util.List;
import java.util.Random;
import java.util.regex.Pattern;

/** Random runs of the class beside a second writing of the document, which copies the whole world for every thought. */
public final class ModelTest {
    private static final class One {
        char kind;
        int figure, has, due, through, shorts, throughEvents, shortEvents;

        One(char kind, int figure, int due) {
            this.kind = kind;
            this.figure = figure;
            this.due = due;
        }

        One copy() {
            One o = new One(kind, figure, due);
            o.has = has;
            o.through = through;
            o.shorts = shorts;
            return o;
        }

        int needs() {
            int clerk = figure + 1;
            if (kind == 'm') return clerk + 4;
            if (kind == 'h') return clerk * 2;
            if (kind == 't') return clerk / 2;
            if (kind == 'd') return clerk + 4 + 10;
            return kind == 'g' ? 1 : clerk;
        }

        int wears() {
            if (kind == 'h') return needs();
            if (kind == 't') return 1;
            if (kind == 'd') return needs() / 3;
            return kind == 'g' ? 0 : needs() / 2;
        }

        int nextDue() {
            return new int[] {7, 1, 30, 7, 0, 8}["cmhtdg".indexOf(kind)];
        }

        int lack() {
            return due > 0 && needs() > has ? needs() - has : 0;
        }
    }

    private static final class World {
        List<One> people = new ArrayList<>();
        int store, worn, day;

        World copy() {
            World w = new World();
            for (One o : people) w.people.add(o.copy());
            w.store = store;
            w.worn = worn;
            w.day = day;
            return w;
        }

        World on(int n) {
            World w = copy();
            for (int i = 0; i < n; i++) w.aDay();
            return w;
        }

        void aDay() {
            day++;
            for (One o : people) {
                if (o.due == 0) continue;
                o.due--;
                if (o.due > 0) continue;
                if (o.has >= o.needs()) {
                    o.throughEvents++;
                    o.through = Math.min(999, o.through + 1);
                    int w = Math.min(o.has, o.wears());
                    o.has -= w;
                    worn = Math.min(9999, worn + w);
                } else {
                    o.shortEvents++;
                    o.shorts = Math.min(999, o.shorts + 1);
                }
                o.due = o.nextDue();
            }
        }

        void give(int p) {
            int lack = people.get(p).lack();
            if (lack > store) return;
            store -= lack;
            people.get(p).has += lack;
        }

        int through() {
            return people.stream().mapToInt(o -> o.through).sum();
        }

        int shorts() {
            return people.stream().mapToInt(o -> o.shorts).sum();
        }

        int has() {
            return people.stream().mapToInt(o -> o.has).sum();
        }
    }

    private static final class Model {
        World world = new World();
        World image;
        StringBuilder letters = new StringBuilder();
        List<Integer> row = new ArrayList<>();
        int[] refusals = new int[7];

        long answer(String call, int[] a) {
            long r = plain(call, a);
            if (r <= -1 && r >= -6 && isRefusal) {
                refusals[(int) -r]++;
                if (call.equals("trusted")) return 1000000000L - r;
                if (call.equals("slip") || call.equals("mean")) return 4000000000000000000L - r;
            }
            return r;
        }

        boolean isRefusal;

        long no(int number) {
            isRefusal = true;
            return number;
        }

        long plain(String call, int[] a) {
            isRefusal = false;
            List<One> people = world.people;
            int size = people.size();
            switch (call) {
                case "letter":
                    if (a[0] < 0) return no(-4);
                    if (a[0] > 255 || letters.length() == 96) return no(-6);
                    letters.append((char) a[0]);
                    return letters.length();
                case "counter": {
                    String text = letters.toString();
                    letters.setLength(0);
                    return counter(text);
                }
                case "person": {
                    if (nobody(a[0])) return no(-1);
                    if (a[1] < 0 || a[1] > 7) return no(-2);
                    One o = people.get(a[0]);
                    return new int[] {"cmhtdg".indexOf(o.kind), o.figure, o.has, o.due, o.through, o.shorts, o.needs(), o.lack()}[a[1]];
                }
                case "issues": {
                    if (nobody(a[0])) return no(-1);
                    if (a[1] < 0) return no(-4);
                    if (a[1] > 99) return no(-6);
                    One o = people.get(a[0]);
                    if (a[1] > world.store || o.has + a[1] > 99) return no(-3);
                    o.has += a[1];
                    return world.store -= a[1];
                }
                case "returns": {
                    if (nobody(a[0])) return no(-1);
                    if (people.get(a[0]).has == 0) return no(-3);
                    handIn(world, a[0]);
                    return world.store;
                }
                case "due": {
                    if (nobody(a[0])) return no(-1);
                    if (a[1] < 0) return no(-4);
                    if (a[1] > 60) return no(-6);
                    int was = people.get(a[0]).due;
                    people.get(a[0]).due = a[1];
                    return was;
                }
                case "fills":
                    if (a[0] < 0) return no(-4);
                    if (a[0] > 99 || world.store + a[0] > 999) return no(-6);
                    return world.store += a[0];
                case "turn": {
                    if (nobody(a[0])) return no(-1);
                    if (a[1] < 0 || a[1] > 5) return no(-2);
                    if (a[2] < 0) return no(-4);
                    if (a[2] > 9) return no(-6);
                    One o = people.get(a[0]);
                    int was = 10 * "cmhtdg".indexOf(o.kind) + o.figure;
                    o.kind = "cmhtdg".charAt(a[1]);
                    o.figure = a[2];
                    return was;
                }
                case "days": {
                    if (a[0] < 1) return no(-4);
                    if (a[0] > 60 || world.day + a[0] > 999) return no(-6);
                    int was = world.through();
                    world = world.on(a[0]);
                    return world.through() - was;
                }
                case "personThen": {
                    if (nobody(a[0])) return no(-1);
                    if (a[1] < 0) return no(-4);
                    if (a[1] > 99) return no(-6);
                    if (a[2] < 0 || a[2] > 4) return no(-2);
                    One o = world.on(a[1]).people.get(a[0]);
                    return new int[] {o.has, o.due, o.through, o.shorts, o.shorts > people.get(a[0]).shorts ? 1 : 0}[a[2]];
                }
                case "allThen": {
                    if (a[0] < 0) return no(-4);
                    if (a[0] > 99) return no(-6);
                    if (a[1] < 0 || a[1] > 2) return no(-2);
                    World w = world.on(a[0]);
                    return new int[] {w.through(), w.shorts(), w.worn}[a[1]];
                }
                case "first":
                    if (a[0] < 0 || a[0] > 1) return no(-2);
                    for (int n = 1; n <= 99; n++) {
                        World w = world.on(n);
                        for (int p = 0; p < size; p++) if (w.people.get(p).shortEvents > 0) return a[0] == 0 ? p : n;
                    }
                    return -9;
                case "lasts": {
                    if (nobody(a[0])) return no(-1);
                    int n = 0;
                    while (n < 99 && world.on(n + 1).people.get(a[0]).shortEvents == 0) n++;
                    return world.on(n).people.get(a[0]).throughEvents;
                }
                case "lacks":
                    return people.stream().mapToInt(One::lack).sum();
                case "next":
                    if (a[0] < 0 || a[0] > 1) return no(-2);
                    for (int n = 1; n <= 60; n++) {
                        for (int p = 0; p < size; p++) if (people.get(p).due == n) return a[0] == 0 ? p : n;
                    }
                    return -9;
                case "enough":
                    if (nobody(a[0])) return no(-1);
                    if (a[1] < 1) return no(-4);
                    if (a[1] > 60) return no(-6);
                    for (int v = 0; v <= 99; v++) {
                        World w = world.copy();
                        w.people.get(a[0]).has = v;
                        if (w.on(a[1]).people.get(a[0]).shortEvents == 0) return v;
                    }
                    return -9;
                default:
                    return planned(call, a, people, size);
            }
        }

        long planned(String call, int[] a, List<One> people, int size) {
            switch (call) {
                case "serve": {
                    if (a[0] < 0 || a[0] > 2) return no(-2);
                    for (int many = size; many >= 0; many--) {
                        for (int set = 0; set < 1 << size; set++) {
                            if (Integer.bitCount(set) != many) continue;
                            int sum = 0;
                            for (int p = 0; p < size; p++) {
                                if ((set & 1 << p) == 0) continue;
                                sum += people.get(p).lack() == 0 ? 5000 : people.get(p).lack();
                            }
                            if (sum <= world.store) return new int[] {many, set, world.store - sum}[a[0]];
                        }
                    }
                    throw new IllegalStateException();
                }
                case "best": {
                    if (a[0] < 1) return no(-4);
                    if (a[0] > 30) return no(-6);
                    if (a[1] < 0 || a[1] > 1) return no(-2);
                    int most = -1, which = -1;
                    for (int set = 0; set < 1 << size; set++) {
                        World w = world.copy();
                        for (int p = 0; p < size; p++) if ((set & 1 << p) != 0) w.give(p);
                        int t = w.on(a[0]).through() - world.through();
                        if (t > most) {
                            most = t;
                            which = set;
                        }
                    }
                    return a[1] == 0 ? most : which;
                }
                case "run": {
                    if (a[0] < 0 || a[0] > 1) return no(-2);
                    int[] refused = refusedAt(world.store, 60);
                    return refused == null ? -9 : refused[a[0]];
                }
                case "stock":
                    if (a[0] < 1) return no(-4);
                    if (a[0] > 30) return no(-6);
                    if (refusedAt(999, a[0] - 1) != null) return -9;
                    for (int s = 998; s >= 0; s--) if (refusedAt(s, a[0] - 1) != null) return s + 1;
                    return 0;
                case "borrow": {
                    if (nobody(a[0])) return no(-1);
                    if (a[1] < 1) return no(-4);
                    if (a[1] > 30) return no(-6);
                    int lack = people.get(a[0]).lack(), most = 0, whom = -9;
                    World without = world.on(a[1]);
                    for (int p = 0; p < size && lack > 0; p++) {
                        World w = world.copy();
                        if (p == a[0] || w.people.get(p).has < lack) continue;
                        w.people.get(p).has -= lack;
                        w.people.get(a[0]).has += lack;
                        if (w.people.get(a[0]).has > 99) continue;
                        w = w.on(a[1]);
                        int more = w.people.get(p).through + w.people.get(a[0]).through
                            - without.people.get(p).through - without.people.get(a[0]).through;
                        if (more > most) {
                            most = more;
                            whom = p;
                        }
                    }
                    return whom;
                }
                case "sweep": {
                    if (a[0] < 1) return no(-4);
                    if (a[0] > 30) return no(-6);
                    if (a[1] < 0 || a[1] > 1) return no(-2);
                    int who = -9, fewest = Integer.MAX_VALUE;
                    for (int p = 0; p < size; p++) {
                        if (people.get(p).has == 0) continue;
                        World w = world.copy();
                        handIn(w, p);
                        int more = w.on(a[0]).shorts() - world.on(a[0]).shorts();
                        if (more < fewest) {
                            fewest = more;
                            who = p;
                        }
                    }
                    return who < 0 ? -9 : a[1] == 0 ? who : fewest;
                }
                case "grain": {
                    if (a[0] < 1) return no(-4);
                    if (a[0] > 30) return no(-6);
                    int who = -9, most = world.on(a[0]).through();
                    for (int p = 0; p < size; p++) {
                        World w = world.copy();
                        w.people.get(p).has = Math.min(99, w.people.get(p).has + 1);
                        int t = w.on(a[0]).through();
                        if (t > most) {
                            most = t;
                            who = p;
                        }
                    }
                    return who;
                }
                case "shares":
                    if (a[0] < 0 || a[0] > 1) return no(-2);
                    if (size == 0) return a[0] == 0 ? 0 : world.store;
                    return a[0] == 0 ? world.store / size : world.store % size;
                case "richest":
                    for (int v = 99; v >= 0; v--) for (int p = 0; p < size; p++) if (people.get(p).has == v) return p;
                    return -9;
                case "trusted":
                    if (nobody(a[0])) return no(-1);
                    return people.get(a[0]).through - people.get(a[0]).shorts;
                case "worth":
                    return world.through() - world.shorts();
                case "two":
                    return two(a);
                case "slip":
                    return slip(a);
                case "mean":
                    if (a[0] < 0 || a[0] > 1) return no(-2);
                    return size == 0 ? a[0] : told(BigInteger.valueOf(world.has()), BigInteger.valueOf(size), a[0]);
                default:
                    return rest(call, a, people, size);
            }
        }

        long rest(String call, int[] a, List<One> people, int size) {
            switch (call) {
                case "whatIs": {
                    if (nobody(a[0])) return no(-1);
                    if (a[1] < 0 || a[1] > 1) return no(-2);
                    int bits = 0;
                    for (int i = 0; i < (a[1] == 0 ? 6 : 10); i++) {
                        World w = world.copy();
                        if (a[1] == 0) w.people.get(a[0]).kind = "cmhtdg".charAt(i);
                        else w.people.get(a[0]).figure = i;
                        boolean so = true;
                        for (int d = 0; d < row.size(); d++) so &= w.on(d).people.get(a[0]).has == row.get(d);
                        if (so) bits |= 1 << i;
                    }
                    return bits;
                }
                case "row":
                    if (a[0] < 0) return no(-4);
                    if (a[0] > 99 || row.size() == 16) return no(-6);
                    row.add(a[0]);
                    return row.size();
                case "judge": {
                    List<Integer> told = row;
                    row = new ArrayList<>();
                    for (int i = 0; i < told.size(); i++) if (i >= size || people.get(i).due != told.get(i)) return i;
                    return -9;
                }
                case "clear": {
                    int had = row.size();
                    row.clear();
                    return had;
                }
                case "lots": {
                    if (a[0] < 1) return no(-4);
                    if (a[0] > 20) return no(-6);
                    if (a[2] < 0 || a[2] > 1) return no(-2);
                    long z = a[1] & 0xffffffffL;
                    int sum = 0;
                    for (int i = 0; i < a[0]; i++) {
                        World w = world.copy();
                        for (One o : w.people) {
                            z = (z * 1664525L + 1013904223L) & 0xffffffffL;
                            o.has = (int) ((z & 0x7fffffffL) >> 8) % 30;
                        }
                        w = w.on(20);
                        sum += a[2] == 0 ? w.through() - world.through() : w.shorts() - world.shorts();
                    }
                    return sum;
                }
                case "image":
                    image = world.copy();
                    return world.day;
                case "on":
                    if (image == null) return no(-3);
                    world = image.copy();
                    return world.day;
                case "count":
                    if (a[0] >= 11 && a[0] <= 16) return refusals[a[0] - 10];
                    if (a[0] < 0 || a[0] > 7) return -9;
                    return new int[] {size, world.day, world.store, world.worn, world.has(),
                        (int) people.stream().filter(o -> o.due > 0).count(), row.size(), letters.length()}[a[0]];
                default:
                    throw new IllegalStateException(call);
            }
        }

        boolean nobody(int p) {
            return p < 0 || p >= world.people.size();
        }

        static void handIn(World w, int p) {
            int whole = w.store + w.people.get(p).has;
            w.people.get(p).has = 0;
            w.store = Math.min(999, whole);
            w.worn = Math.min(9999, w.worn + whole - w.store);
        }

        int[] refusedAt(int store, int days) {
            World w = world.copy();
            w.store = store;
            for (int d = 0; d <= days; d++) {
                for (int p = 0; p < w.people.size(); p++) {
                    if (w.people.get(p).due != 1) continue;
                    if (w.people.get(p).lack() > w.store) return new int[] {d, p};
                    w.give(p);
                }
                w.aDay();
            }
            return null;
        }

        int pay(int[] a, int first, int other, int whose) {
            World w = world.copy();
            int[] had = {w.people.get(a[0]).has, w.people.get(a[1]).has};
            if (first == 1) w.give(a[0]);
            if (other == 1) w.give(a[1]);
            int issued = w.people.get(a[whose]).has - had[whose];
            return w.on(a[2]).people.get(a[whose]).through - world.people.get(a[whose]).through - issued / 10;
        }

        long two(int[] a) {
            if (nobody(a[0]) || nobody(a[1]) || a[0] == a[1]) return no(-1);
            if (a[2] < 1) return no(-4);
            if (a[2] > 30) return no(-6);
            for (int f = 0; f < 2; f++) {
                for (int o = 0; o < 2; o++) {
                    boolean stays = pay(a, 1 - f, o, 0) <= pay(a, f, o, 0) && pay(a, f, 1 - o, 1) <= pay(a, f, o, 1);
                    if (stays) return 10 * f + o;
                }
            }
            return -9;
        }

        long slip(int[] a) {
            if (nobody(a[0])) return no(-1);
            if (a[1] < 0 || a[3] < 0 || a[2] < 2) return no(-4);
            if (a[1] > 7 || a[2] > 20 || a[3] > 9) return no(-6);
            if (a[4] < 0 || a[4] > 1) return no(-2);
            BigInteger above = slipWays(world, a[0], a[1], a[2], a[3] + world.people.get(a[0]).through);
            return told(above, BigInteger.valueOf(a[2]).pow(a[1]), a[4]);
        }

        BigInteger slipWays(World w, int p, int n, int t, int due) {
            if (n == 0) return w.people.get(p).through >= due ? BigInteger.ONE : BigInteger.ZERO;
            World losing = w.copy();
            One o = losing.people.get(p);
            o.has = Math.max(0, o.has - 1);
            return slipWays(losing.on(1), p, n - 1, t, due)
                .add(slipWays(w.on(1), p, n - 1, t, due).multiply(BigInteger.valueOf(t - 1)));
        }

        static long told(BigInteger above, BigInteger below, int part) {
            BigInteger g = above.gcd(below);
            return (part == 0 ? above : below).divide(g).longValueExact();
        }

        static final Pattern[] PARTS = {Pattern.compile("p[cmhtdg][0-9]{3};"), Pattern.compile("[iug][0-9]{3};"),
            Pattern.compile("r[0-9];"), Pattern.compile("d[0-9]{2};")};
        static final Pattern WHOLE = Pattern.compile("(p[cmhtdg][0-9]{3};|[iug][0-9]{3};|r[0-9];|d[0-9]{2};)+");

        /** Whether some letters behind it make a COUNTER of it. */
        static boolean canGoOn(String text) {
            for (String end : new String[] {"c000;", "000;", "00;", "0;", ";", "", "p", "d00;"}) {
                if (WHOLE.matcher(text + end).matches()) return true;
            }
            return false;
        }

        long counter(String text) {
            if (!WHOLE.matcher(text).matches()) {
                for (int i = 0; i < text.length(); i++) if (!canGoOn(text.substring(0, i + 1))) return -1000 - i;
                return -1000 - text.length();
            }
            World w = world.copy();
            int at = 0, statements = 0;
            for (String s : text.split(";")) {
                World next = statement(w, s);
                if (next == null) return -2000 - at;
                w = next;
                at += s.length() + 1;
                statements++;
            }
            world = w;
            return statements;
        }

        static World statement(World w, String s) {
            int tail = s.length() > 2 ? Integer.parseInt(s.substring(s.length() - 2)) : 0;
            char what = s.charAt(0);
            int p = what == 'p' ? 0 : s.charAt(1) - '0';
            if ((what == 'i' || what == 'r' || what == 'u') && p >= w.people.size()) return null;
            switch (what) {
                case 'p':
                    if (tail > 60 || w.people.size() == 8) return null;
                    w.people.add(new One(s.charAt(1), s.charAt(2) - '0', tail));
                    return w;
                case 'i':
                    if (tail > w.store || tail + w.people.get(p).has > 99) return null;
                    w.store -= tail;
                    w.people.get(p).has += tail;
                    return w;
                case 'r':
                    handIn(w, p);
                    return w;
                case 'u':
                    if (tail > 60) return null;
                    w.people.get(p).due = tail;
                    return w;
                case 'g':
                    w.store += Integer.parseInt(s.substring(1));
                    return w.store > 999 ? null : w;
                default:
                    return tail < 1 || tail > 60 || w.day + tail > 999 ? null : w.on(tail);
            }
        }
    }

    // ---- the runs

    private static final String[] CALLS = {"person 2", "issues 2", "returns 1", "due 2", "fills 1", "turn 3", "days 1", "personThen 3", "allThen 2",
        "first 1", "lasts 1", "lacks 0", "next 1", "enough 2", "serve 1", "best 2", "run 1", "stock 1", "borrow 2", "sweep 2", "grain 1",
        "shares 1", "richest 0", "trusted 1", "worth 0", "two 3", "slip 5", "mean 1", "whatIs 2", "row 1", "judge 0", "clear 0", "lots 3",
        "image 0", "on 0", "count 1"};
    private static final String[] IN_THOUGHT = {"personThen 3", "allThen 2", "first 1", "lasts 1", "enough 2", "best 2", "borrow 2", "sweep 2",
        "grain 1", "two 3", "slip 5", "lots 3"};
    private static final int[] EDGES = {-1, 0, 1, 2, 5, 6, 7, 8, 9, 10, 15, 16, 20, 21, 29, 30, 31, 59, 60, 61, 98, 99, 100, 255, 256,
        Integer.MIN_VALUE, Integer.MAX_VALUE};
    private static int wrong = 0;
    private static int compared = 0;

    private static long ask(GritIsIssued x, String call, int[] a) {
        switch (call) {
            case "letter": return x.letter(a[0]);
            case "counter": return x.counter();
            case "person": return x.person(a[0], a[1]);
            case "issues": return x.issues(a[0], a[1]);
            case "returns": return x.returns(a[0]);
            case "due": return x.due(a[0], a[1]);
            case "fills": return x.fills(a[0]);
            case "turn": return x.turn(a[0], a[1], a[2]);
            case "days": return x.days(a[0]);
            case "personThen": return x.personThen(a[0], a[1], a[2]);
            case "allThen": return x.allThen(a[0], a[1]);
            case "first": return x.first(a[0]);
            case "lasts": return x.lasts(a[0]);
            case "lacks": return x.lacks();
            case "next": return x.next(a[0]);
            case "enough": return x.enough(a[0], a[1]);
            case "serve": return x.serve(a[0]);
            case "best": return x.best(a[0], a[1]);
            case "run": return x.run(a[0]);
            case "stock": return x.stock(a[0]);
            case "borrow": return x.borrow(a[0], a[1]);
            case "sweep": return x.sweep(a[0], a[1]);
            case "grain": return x.grain(a[0]);
            case "shares": return x.shares(a[0]);
            case "richest": return x.richest();
            case "trusted": return x.trusted(a[0]);
            case "worth": return x.worth();
            case "two": return x.two(a[0], a[1], a[2]);
            case "slip": return x.slip(a[0], a[1], a[2], a[3], a[4]);
            case "mean": return x.mean(a[0]);
            case "whatIs": return x.whatIs(a[0], a[1]);
            case "row": return x.row(a[0]);
            case "judge": return x.judge();
            case "clear": return x.clear();
            case "lots": return x.lots(a[0], a[1], a[2]);
            case "image": return x.image();
            case "on": return x.on();
            case "count": return x.count(a[0]);
            default: throw new IllegalStateException(call);
        }
    }

    private static void both(int run, GritIsIssued x, Model model, String call, int... a) {
        long want = model.answer(call, a);
        long got = ask(x, call, a);
        compared++;
        if (got == want) return;
        wrong++;
        if (wrong <= 30) System.out.println("run " + run + ": " + call + java.util.Arrays.toString(a) + " answered " + got + ", the model " + want);
    }

    private static String statement(Random r, Model model) {
        String two = String.format("%02d", r.nextInt(r.nextInt(4) == 0 ? 100 : 20));
        int size = model.world.people.size();
        String who = "" + (r.nextInt(6) == 0 || size == 0 ? r.nextInt(10) : r.nextInt(size));
        switch (r.nextInt(9)) {
            case 0: case 1: case 2: return "p" + "cmhtdg".charAt(r.nextInt(6)) + r.nextInt(10) + (r.nextBoolean() ? two : "0" + r.nextInt(10)) + ";";
            case 3: case 4: return "i" + who + two + ";";
            case 5: return "r" + who + ";";
            case 6: return "u" + who + two + ";";
            case 7: return "g" + r.nextInt(4) + two + ";";
            default: return "d" + two + ";";
        }
    }

    private static int value(Random r, String call, int at, Model model) {
        if (r.nextInt(14) == 0) return EDGES[r.nextInt(EDGES.length)];
        int size = model.world.people.size();
        boolean ofOne = "person issues returns due turn personThen lasts enough borrow trusted slip whatIs two".contains(call);
        if (at == 0 && ofOne || at == 1 && call.equals("two")) return size == 0 ? 0 : r.nextInt(size);
        if (call.equals("count")) return r.nextInt(18);
        if (call.equals("lots")) return at == 0 ? 1 + r.nextInt(4) : at == 1 ? r.nextInt() : r.nextInt(2);
        if (call.equals("slip")) return at == 1 ? r.nextInt(8) : at == 2 ? 2 + r.nextInt(19) : at == 3 ? r.nextInt(4) : r.nextInt(2);
        if (call.equals("days")) return 1 + r.nextInt(r.nextInt(3) == 0 ? 60 : 5);
        if (call.equals("issues") || call.equals("fills")) return r.nextInt(25);
        if (call.equals("due")) return r.nextInt(9);
        if (call.equals("turn")) return r.nextInt(6);
        if (call.equals("row")) return r.nextInt(20);
        if (call.equals("first") || call.equals("next") || call.equals("run") || call.equals("shares") || call.equals("mean")) return r.nextInt(2);
        if (call.equals("serve")) return r.nextInt(3);
        if (at == 0 || at == 1 && "personThen enough borrow".contains(call) || call.equals("two")) return 1 + r.nextInt(30);
        if (call.equals("person")) return r.nextInt(8);
        if (call.equals("personThen")) return r.nextInt(5);
        return call.equals("allThen") ? r.nextInt(3) : r.nextInt(2);
    }

    /** A first COUNTER of some people with grains in the hand. */
    private static String opening(Random r) {
        StringBuilder text = new StringBuilder(String.format("g%03d;", r.nextInt(4) == 0 ? r.nextInt(30) : r.nextInt(400)));
        int size = 1 + r.nextInt(8);
        for (int p = 0; p < size; p++) text.append("p" + "cmhtdg".charAt(r.nextInt(6)) + r.nextInt(10) + "0" + r.nextInt(10) + ";");
        for (int p = 0; p < size; p++) if (r.nextInt(3) > 0) text.append(String.format("i%d%02d;", p, r.nextInt(22)));
        return text.length() > 96 ? text.substring(0, text.lastIndexOf(";", 95) + 1) : text.toString();
    }

    private static void tell(int run, GritIsIssued x, Model model, String text) {
        for (int i = 0; i < text.length(); i++) both(run, x, model, "letter", text.charAt(i));
        both(run, x, model, "counter");
    }

    /** A few calls in an order that chance alone seldom makes. */
    private static int scene(int run, Random r, GritIsIssued x, Model model) {
        int size = model.world.people.size();
        if (size == 0) return 0;
        int p = r.nextInt(size);
        int many = 1 + r.nextInt(12);
        both(run, x, model, "clear");
        switch (r.nextInt(3)) {
            case 0:
                if (r.nextBoolean()) both(run, x, model, "due", p, 1 + r.nextInt(3));
                for (int i = 0; i < many; i++) {
                    int off = r.nextInt(40) == 0 ? 1 : 0;
                    both(run, x, model, "row", Math.min(99, model.world.on(i).people.get(p).has + off));
                }
                both(run, x, model, "whatIs", p, 0);
                both(run, x, model, "whatIs", p, 1);
                break;
            case 1:
                for (int i = 0; i < Math.min(many, size + 1); i++) {
                    both(run, x, model, "row", i < size && r.nextInt(9) > 0 ? model.world.people.get(i).due : r.nextInt(9));
                }
                both(run, x, model, "judge");
                break;
            default:
                both(run, x, model, "due", p, 1 + r.nextInt(3));
                both(run, x, model, "issues", p, model.world.people.get(p).lack() + r.nextInt(4));
                int[] a = {p, r.nextInt(8), 2 + r.nextInt(19), r.nextInt(4), 0};
                both(run, x, model, "slip", a);
                a[4] = 1;
                both(run, x, model, "slip", a);
        }
        return many + 6;
    }

    private static void run(int number) {
        Random r = new Random(number);
        GritIsIssued x = new GritIsIssued();
        Model model = new Model();
        int calls = 0;
        if (number % 6 > 0) {
            tell(number, x, model, opening(r));
            calls = 97;
        }
        while (calls < 400) {
            if (r.nextInt(16) == 0) calls += scene(number, r, x, model);
            if (r.nextInt(calls < 40 ? 2 : 24) == 0) {
                StringBuilder text = new StringBuilder();
                int statements = 1 + r.nextInt(5);
                for (int i = 0; i < statements; i++) text.append(statement(r, model));
                if (r.nextInt(5) == 0) text.setCharAt(r.nextInt(text.length()), "pcmhtdgiru0159;x".charAt(r.nextInt(16)));
                if (r.nextInt(9) == 0) text.setLength(r.nextInt(text.length()));
                tell(number, x, model, text.toString());
                calls += text.length() + 1;
            }
            String[] call = CALLS[r.nextInt(CALLS.length)].split(" ");
            if (call[0].equals("judge") && r.nextInt(3) > 0 || call[0].equals("clear") && r.nextInt(3) > 0) continue;
            int[] a = new int[Integer.parseInt(call[1])];
            for (int i = 0; i < a.length; i++) a[i] = value(r, call[0], i, model);
            both(number, x, model, call[0], a);
            calls++;
        }
        for (int what = 0; what <= 17; what++) both(number, x, model, "count", what);
        for (int p = 0; p < 8; p++) for (int what = 0; what < 8; what++) both(number, x, model, "person", p, what);
    }

    /** A run that begins near the last DAY: 0 got through on nearly each, 1 seldom, 2 and 3 now and then. */
    private static void lateRun(int number) {
        Random r = new Random(number);
        GritIsIssued x = new GritIsIssued();
        Model model = new Model();
        tell(number, x, model, "pm001;pm001;pm001;pc501;g999;i099;");
        for (int round = 0; round < 20; round++) {
            both(number, x, model, "days", 48);
            both(number, x, model, "fills", 96);
            both(number, x, model, "issues", 0, 96);
            if (number % 2 == 0 || round > 17) both(number, x, model, "issues", 2, r.nextInt(30));
            both(number, x, model, "issues", 3, r.nextInt(20));
        }
        both(number, x, model, "days", 20 + r.nextInt(20));
        both(number, x, model, "image");
        for (int calls = 0; calls < 240; calls++) {
            String[] of = r.nextBoolean() ? CALLS : IN_THOUGHT;
            String[] call = of[r.nextInt(of.length)].split(" ");
            int[] a = new int[Integer.parseInt(call[1])];
            for (int i = 0; i < a.length; i++) a[i] = value(r, call[0], i, model);
            both(number, x, model, call[0], a);
        }
    }

    public static void main(String[] args) {
        for (int i = 0; i < 500; i++) run(i);
        for (int i = 500; i < 600; i++) lateRun(i);
        System.out.println(compared - wrong + " passed, " + wrong + " failed");
        if (wrong != 0) System.exit(1);
    }
}
