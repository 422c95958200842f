/** A counter that issues grains to people of kinds with matters due on days; ../shared/DOC.md says what it promises. */
public final class GritIsIssued {
    private static final int NONE = -9;
    private static final int NOBODY = -1;
    private static final int OTHER = -2;
    private static final int STATE = -3;
    private static final int BELOW = -4;
    private static final int ROOM = -6;
    private static final int TOLD_AS_INT = 1000000000;
    private static final long TOLD_AS_LONG = 4000000000000000000L;

    private static final int PEOPLE_MOST = 8;
    private static final int GRAINS_MOST = 99;
    private static final int STORE_MOST = 999;
    private static final int WORN_MOST = 9999;
    private static final int DAY_MOST = 999;
    private static final int DUE_MOST = 60;
    private static final int TIMES_MOST = 999;
    private static final int FIGURE_MOST = 9;
    private static final int LETTERS_MOST = 96;
    private static final int ROW_MOST = 16;
    private static final int AHEAD_MOST = 99;
    private static final int PLAN_MOST = 30;
    private static final String KIND_LETTERS = "cmhtdg";

    private final Office now = new Office();
    private final Office mind = new Office();
    private final Office image = new Office();
    private final Person trial = new Person();
    private final Text text = new Text();
    private final int[] row = new int[ROW_MOST];
    private final int[] refusals = new int[7];
    private final int[] throughBare = new int[PEOPLE_MOST];
    private final int[] throughGiven = new int[PEOPLE_MOST];
    private int rowCount;
    private boolean hasImage;

    public GritIsIssued() {
    }

    // ---- what happens at the counter

    public int letter(int c) {
        int fault = outside(c, 0, 255);
        if (fault == 0 && text.count >= LETTERS_MOST) fault = ROOM;
        if (fault != 0) return refused(fault);
        text.add(c);
        return text.count;
    }

    public int counter() {
        int answer = read();
        text.count = 0;
        return answer;
    }

    public int person(int person, int what) {
        int fault = firstOf(unknown(person), other(what, 7), 0);
        if (fault != 0) return refused(fault);
        Person one = now.at(person);
        switch (what) {
            case 0: return one.kind;
            case 1: return one.figure;
            case 2: return one.has;
            case 3: return one.due;
            case 4: return one.through;
            case 5: return one.shorts;
            case 6: return one.needed();
            default: return one.lacking();
        }
    }

    public int issues(int person, int v) {
        int fault = firstOf(unknown(person), outside(v, 0, GRAINS_MOST), 0);
        if (fault != 0) return refused(fault);
        if (!now.issue(person, v)) return refused(STATE);
        return now.store;
    }

    public int returns(int person) {
        int fault = unknown(person);
        if (fault == 0 && now.at(person).has == 0) fault = STATE;
        if (fault != 0) return refused(fault);
        now.handIn(person);
        return now.store;
    }

    public int due(int person, int v) {
        int fault = firstOf(unknown(person), outside(v, 0, DUE_MOST), 0);
        if (fault != 0) return refused(fault);
        Person one = now.at(person);
        int before = one.due;
        one.due = v;
        return before;
    }

    public int fills(int v) {
        int fault = outside(v, 0, GRAINS_MOST);
        if (fault != 0) return refused(fault);
        if (!now.fill(v)) return refused(ROOM);
        return now.store;
    }

    public int turn(int person, int kind, int figure) {
        int fault = firstOf(unknown(person), other(kind, 5), outside(figure, 0, FIGURE_MOST));
        if (fault != 0) return refused(fault);
        Person one = now.at(person);
        int before = 10 * one.kind + one.figure;
        one.kind = kind;
        one.figure = figure;
        return before;
    }

    public int days(int n) {
        int fault = outside(n, 1, DUE_MOST);
        if (fault == 0 && now.day + n > DAY_MOST) fault = ROOM;
        if (fault != 0) return refused(fault);
        int before = now.allThrough();
        now.daysGoBy(n);
        return now.allThrough() - before;
    }

    // ---- in mind, some days on

    public int personThen(int person, int n, int what) {
        int fault = firstOf(unknown(person), outside(n, 0, AHEAD_MOST), other(what, 4));
        if (fault != 0) return refused(fault);
        Person one = now.at(person);
        Person then = thought(person, one.has, n);
        switch (what) {
            case 0: return then.has;
            case 1: return then.due;
            case 2: return then.through;
            case 3: return then.shorts;
            default: return then.shorts > one.shorts ? 1 : 0;
        }
    }

    public int allThen(int n, int what) {
        int fault = firstOf(outside(n, 0, AHEAD_MOST), other(what, 2), 0);
        if (fault != 0) return refused(fault);
        mind.takeFrom(now);
        mind.daysGoBy(n);
        if (what == 0) return mind.allThrough();
        return what == 1 ? mind.allShort() : mind.worn;
    }

    public int first(int what) {
        int fault = other(what, 1);
        if (fault != 0) return refused(fault);
        mind.takeFrom(now);
        for (int days = 1; days <= AHEAD_MOST; days++) {
            mind.daysGoBy(1);
            int who = mind.firstMissing();
            if (who >= 0) return what == 0 ? who : days;
        }
        return NONE;
    }

    public int lasts(int person) {
        int fault = unknown(person);
        if (fault != 0) return refused(fault);
        trial.takeFrom(now.at(person));
        for (int days = 1; days <= AHEAD_MOST && trial.missed == 0; days++) trial.oneDay();
        return trial.passed;
    }

    public int lacks() {
        int sum = 0;
        for (int p = 0; p < now.people; p++) sum += now.at(p).lacking();
        return sum;
    }

    public int next(int what) {
        int fault = other(what, 1);
        if (fault != 0) return refused(fault);
        int who = NONE;
        int soonest = NONE;
        for (int p = 0; p < now.people; p++) {
            int due = now.at(p).due;
            if (due > 0 && (who < 0 || due < soonest)) {
                who = p;
                soonest = due;
            }
        }
        return what == 0 ? who : soonest;
    }

    public int enough(int person, int n) {
        int fault = firstOf(unknown(person), outside(n, 1, DUE_MOST), 0);
        if (fault != 0) return refused(fault);
        for (int v = 0; v <= GRAINS_MOST; v++) {
            if (thought(person, v, n).missed == 0) return v;
        }
        return NONE;
    }

    // ---- whom to issue to

    public int serve(int what) {
        int fault = other(what, 2);
        if (fault != 0) return refused(fault);
        int most = 0;
        int who = 0;
        for (int set = 1; set < 1 << now.people; set++) {
            int size = Integer.bitCount(set);
            if (size > most && now.lackAll(set) && now.lackOf(set) <= now.store) {
                most = size;
                who = set;
            }
        }
        if (what == 0) return most;
        return what == 1 ? who : now.store - now.lackOf(who);
    }

    public int best(int n, int what) {
        int fault = firstOf(outside(n, 1, PLAN_MOST), other(what, 1), 0);
        if (fault != 0) return refused(fault);
        weigh(n);
        int most = NONE;
        int which = 0;
        for (int set = 0; set < 1 << now.people; set++) {
            int through = throughOf(set);
            if (through > most) {
                most = through;
                which = set;
            }
        }
        return what == 0 ? most : which;
    }

    public int run(int what) {
        int fault = other(what, 1);
        if (fault != 0) return refused(fault);
        mind.takeFrom(now);
        for (int days = 0; days <= DUE_MOST; days++) {
            int who = mind.issueAhead();
            if (who >= 0) return what == 0 ? days : who;
            mind.daysGoBy(1);
        }
        return NONE;
    }

    public int stock(int n) {
        int fault = outside(n, 1, PLAN_MOST);
        if (fault != 0) return refused(fault);
        mind.takeFrom(now);
        // while nobody is refused, what goes out does not hang on the STORE: all that a full one issued is the least
        mind.store = STORE_MOST;
        for (int days = 0; days < n; days++) {
            if (mind.issueAhead() >= 0) return NONE;
            mind.daysGoBy(1);
        }
        return STORE_MOST - mind.store;
    }

    public int borrow(int person, int n) {
        int fault = firstOf(unknown(person), outside(n, 1, PLAN_MOST), 0);
        if (fault != 0) return refused(fault);
        int had = now.at(person).has;
        int lack = now.at(person).lacking();
        if (lack == 0 || had + lack > GRAINS_MOST) return NONE;
        int gain = throughMore(person, had + lack, n) - throughMore(person, had, n);
        int whom = NONE;
        int most = 0;
        for (int p = 0; p < now.people; p++) {
            int has = now.at(p).has;
            if (p == person || has < lack) continue;
            int more = gain + throughMore(p, has - lack, n) - throughMore(p, has, n);
            if (more > most) {
                most = more;
                whom = p;
            }
        }
        return whom;
    }

    public int sweep(int n, int what) {
        int fault = firstOf(outside(n, 1, PLAN_MOST), other(what, 1), 0);
        if (fault != 0) return refused(fault);
        int who = NONE;
        int fewest = NONE;
        for (int p = 0; p < now.people; p++) {
            int has = now.at(p).has;
            if (has == 0) continue;
            int more = shortMore(p, 0, n) - shortMore(p, has, n);
            if (who < 0 || more < fewest) {
                who = p;
                fewest = more;
            }
        }
        return what == 0 ? who : fewest;
    }

    public int grain(int n) {
        int fault = outside(n, 1, PLAN_MOST);
        if (fault != 0) return refused(fault);
        int who = NONE;
        int most = 0;
        for (int p = 0; p < now.people; p++) {
            int has = now.at(p).has;
            if (has >= GRAINS_MOST) continue;
            int more = throughMore(p, has + 1, n) - throughMore(p, has, n);
            if (more > most) {
                who = p;
                most = more;
            }
        }
        return who;
    }

    // ---- shares, trust, odds

    public int shares(int what) {
        int fault = other(what, 1);
        if (fault != 0) return refused(fault);
        if (now.people < 1) return what == 0 ? 0 : now.store;
        return what == 0 ? now.store / now.people : now.store % now.people;
    }

    public int richest() {
        int who = NONE;
        int most = NONE;
        for (int p = 0; p < now.people; p++) {
            int has = now.at(p).has;
            if (has > most) {
                who = p;
                most = has;
            }
        }
        return who;
    }

    public int trusted(int person) {
        int fault = unknown(person);
        if (fault != 0) return TOLD_AS_INT - refused(fault);
        Person one = now.at(person);
        return one.through - one.shorts;
    }

    public int worth() {
        return now.allThrough() - now.allShort();
    }

    public int two(int a, int b, int n) {
        int who = firstOf(unknown(a), unknown(b), a == b ? NOBODY : 0);
        int fault = firstOf(who, outside(n, 1, PLAN_MOST), 0);
        if (fault != 0) return refused(fault);
        weigh(n);
        for (int pair = 0; pair < 4; pair++) {
            int one = pair / 2;
            int two = pair % 2;
            if (firstWants(a, one) >= firstWants(a, 1 - one)
                    && otherWants(a, one, b, two) >= otherWants(a, one, b, 1 - two)) {
                return 10 * one + two;
            }
        }
        return NONE;
    }

    public long slip(int person, int n, int t, int v, int part) {
        int below = n < 0 || v < 0 || t < 2 ? BELOW : 0;
        int above = n > 7 || t > 20 || v > 9 ? ROOM : 0;
        int fault = firstOf(unknown(person), below, above);
        if (fault == 0) fault = other(part, 1);
        if (fault != 0) return TOLD_AS_LONG - refused(fault);
        long ways = 0;
        for (int lost = 0; lost < 1 << n; lost++) {
            if (throughLosing(person, n, lost) >= v) ways += power(t - 1, n - Integer.bitCount(lost));
        }
        return leastTerms(ways, power(t, n), part);
    }

    public long mean(int part) {
        int fault = other(part, 1);
        if (fault != 0) return TOLD_AS_LONG - refused(fault);
        return leastTerms(now.allHas(), now.people, part);
    }

    // ---- the ROW

    public int whatIs(int person, int what) {
        int fault = firstOf(unknown(person), other(what, 1), 0);
        if (fault != 0) return refused(fault);
        int bits = 0;
        int most = what == 0 ? KIND_LETTERS.length() : FIGURE_MOST + 1;
        for (int i = 0; i < most; i++) {
            trial.takeFrom(now.at(person));
            if (what == 0) trial.kind = i;
            else trial.figure = i;
            if (rowIsOfTrial()) bits |= 1 << i;
        }
        return bits;
    }

    public int row(int v) {
        int fault = outside(v, 0, GRAINS_MOST);
        if (fault == 0 && rowCount >= row.length) fault = ROOM;
        if (fault != 0) return refused(fault);
        if (rowCount >= 0 && rowCount < row.length) row[rowCount++] = v;
        return rowCount;
    }

    public int judge() {
        int answer = NONE;
        for (int i = 0; i < rowCount && i < row.length && answer < 0; i++) {
            if (!now.knows(i) || now.at(i).due != row[i]) answer = i;
        }
        rowCount = 0;
        return answer;
    }

    public int clear() {
        int before = rowCount;
        rowCount = 0;
        return before;
    }

    // ---- springs by lot, the image, counts

    public int lots(int n, int z, int what) {
        int fault = firstOf(outside(n, 1, 20), other(what, 1), 0);
        if (fault != 0) return refused(fault);
        int seed = z;
        int sum = 0;
        for (int spring = 0; spring < n; spring++) {
            mind.takeFrom(now);
            for (int p = 0; p < mind.people; p++) {
                seed = seed * 1664525 + 1013904223;
                mind.at(p).has = (seed & 0x7fffffff) / 256 % 30;
            }
            mind.daysGoBy(20);
            sum += what == 0 ? mind.allThrough() - now.allThrough() : mind.allShort() - now.allShort();
        }
        return sum;
    }

    public int image() {
        image.takeFrom(now);
        hasImage = true;
        return now.day;
    }

    public int on() {
        if (!hasImage) return refused(STATE);
        now.takeFrom(image);
        return now.day;
    }

    public int count(int what) {
        if (what >= 11 && what <= 16) {
            int number = what - 10;
            return number < refusals.length ? refusals[number] : 0;
        }
        switch (what) {
            case 0: return now.people;
            case 1: return now.day;
            case 2: return now.store;
            case 3: return now.worn;
            case 4: return now.allHas();
            case 5: return now.allWithMatter();
            case 6: return rowCount;
            case 7: return text.count;
            default: return NONE;
        }
    }

    // ---- REFUSALS

    private int refused(int number) {
        int place = -number;
        if (place >= 0 && place < refusals.length) refusals[place]++;
        return number;
    }

    private static int firstOf(int fault, int second, int third) {
        if (fault != 0) return fault;
        return second != 0 ? second : third;
    }

    private int unknown(int person) {
        return now.knows(person) ? 0 : NOBODY;
    }

    private static int other(int what, int last) {
        return what < 0 || what > last ? OTHER : 0;
    }

    private static int outside(int v, int least, int most) {
        if (v < least) return BELOW;
        return v > most ? ROOM : 0;
    }

    // ---- a COUNTER told in letters

    private int read() {
        int wrong = text.firstWrong();
        if (wrong >= 0) return -1000 - wrong;
        mind.takeFrom(now);
        int statements = 0;
        int place = 0;
        while (place < text.count && statements < LETTERS_MOST) {
            if (!comes(place)) return -2000 - place;
            place += text.lengthAt(place);
            statements++;
        }
        now.takeFrom(mind);
        return statements;
    }

    private boolean comes(int place) {
        int who = text.number(place + 1, 1);
        switch (text.letterAt(place)) {
            case 'p':
                return mind.welcome(text.kindAt(place + 1), text.number(place + 2, 1), text.number(place + 3, 2));
            case 'i':
                return mind.issue(who, text.number(place + 2, 2));
            case 'r':
                return mind.handIn(who);
            case 'u':
                return mind.setDue(who, text.number(place + 2, 2));
            case 'g':
                return mind.fill(text.number(place + 1, 3));
            case 'd':
                return mind.daysCome(text.number(place + 1, 2));
            default:
                return false;
        }
    }

    // ---- one alone in thought: a DAY of one changes nothing that another's matters hang on

    private Person thought(int person, int has, int n) {
        trial.takeFrom(now.at(person));
        trial.has = has;
        for (int days = 0; days < n; days++) trial.oneDay();
        return trial;
    }

    // THROUGH and SHORT stand still at 999 in thought too, so the numbers are compared and not the matters counted
    private int throughMore(int person, int has, int n) {
        return thought(person, has, n).through - now.at(person).through;
    }

    private int shortMore(int person, int has, int n) {
        return thought(person, has, n).shorts - now.at(person).shorts;
    }

    private int throughLosing(int person, int n, int lost) {
        Person one = now.at(person);
        trial.takeFrom(one);
        for (int days = 0; days < n; days++) {
            if ((lost >> days & 1) == 1 && trial.has > 0) trial.has--;
            trial.oneDay();
        }
        return trial.through - one.through;
    }

    private boolean rowIsOfTrial() {
        for (int i = 0; i < rowCount && i < row.length; i++) {
            if (i > 0) trial.oneDay();
            if (trial.has != row[i]) return false;
        }
        return true;
    }

    /** How much each is THROUGH in n DAYS, as he stands and with all he lacks. */
    private void weigh(int n) {
        for (int p = 0; p < now.people && p < PEOPLE_MOST; p++) {
            int has = now.at(p).has;
            int lack = now.at(p).lacking();
            throughBare[p] = throughMore(p, has, n);
            throughGiven[p] = throughMore(p, has + lack, n);
        }
    }

    private int weighed(int person, boolean given) {
        if (person < 0 || person >= PEOPLE_MOST) return 0;
        return given ? throughGiven[person] : throughBare[person];
    }

    private int throughOf(int set) {
        int left = now.store;
        int sum = 0;
        for (int p = 0; p < now.people; p++) {
            int lack = now.at(p).lacking();
            boolean given = (set >> p & 1) == 1 && lack <= left;
            if (given) left -= lack;
            sum += weighed(p, given);
        }
        return sum;
    }

    private int firstWants(int a, int sign) {
        return wants(a, sign, now.store);
    }

    private int otherWants(int a, int signOfFirst, int b, int sign) {
        int lack = now.at(a).lacking();
        boolean given = signOfFirst == 1 && lack <= now.store;
        return wants(b, sign, given ? now.store - lack : now.store);
    }

    private int wants(int person, int sign, int store) {
        int lack = now.at(person).lacking();
        boolean given = sign == 1 && lack <= store;
        return weighed(person, given) - (given ? lack / 10 : 0);
    }

    // ---- numbers

    private static long power(long base, int times) {
        long product = 1;
        for (int i = 0; i < times; i++) product *= base;
        return product;
    }

    private static long leastTerms(long above, long below, int part) {
        // 0 is told as 0 by 1: part 0 is 0, part 1 is 1
        if (above == 0 || below == 0) return part;
        long divisor = above;
        long rest = below;
        // 92 steps are the most that two longs can take
        for (int i = 0; i < 100 && rest != 0; i++) {
            long over = divisor % rest;
            divisor = rest;
            rest = over;
        }
        if (divisor == 0) return part;
        return part == 0 ? above / divisor : below / divisor;
    }

    // ---- KINDS: what one takes from the KIND above him stands in the same switch

    private static final class Kind {
        static final int MOTHER = 1;
        static final int HERO = 2;
        static final int TYPIST = 3;
        static final int DIVORCED = 4;
        static final int GIRL = 5;

        static int needs(int kind, int figure) {
            int clerk = figure + 1;
            int mother = clerk + 4;
            switch (kind) {
                case MOTHER: return mother;
                case HERO: return clerk * 2;
                case TYPIST: return clerk / 2;
                case DIVORCED: return mother + 10;
                case GIRL: return 1;
                default: return clerk;
            }
        }

        static int wears(int kind, int needs) {
            switch (kind) {
                case HERO: return needs;
                case TYPIST: return 1;
                case DIVORCED: return needs / 3;
                case GIRL: return 0;
                default: return needs / 2;
            }
        }

        static int nextIn(int kind) {
            int clerk = 7;
            switch (kind) {
                case MOTHER: return 1;
                case HERO: return 30;
                case DIVORCED: return 0;
                case GIRL: return clerk + 1;
                default: return clerk;
            }
        }
    }

    // ---- PEOPLE and all that there is

    private static final class Person {
        int kind;
        int figure;
        int has;
        int due;
        int through;
        int shorts;
        // the matters since the last copy, for what asks for them: THROUGH and SHORT stand still at 999
        int passed;
        int missed;

        void takeFrom(Person one) {
            kind = one.kind;
            figure = one.figure;
            has = one.has;
            due = one.due;
            through = one.through;
            shorts = one.shorts;
            passed = 0;
            missed = 0;
        }

        int needed() {
            return Kind.needs(kind, figure);
        }

        int lacking() {
            return due == 0 ? 0 : Math.max(0, needed() - has);
        }

        /** One DAY of his: how many grains are gone. */
        int oneDay() {
            if (due == 0) return 0;
            due--;
            if (due > 0) return 0;
            int needs = Kind.needs(kind, figure);
            int gone = 0;
            if (has >= needs) {
                passed++;
                through = Math.min(through + 1, TIMES_MOST);
                gone = Math.min(Kind.wears(kind, needs), has);
                has -= gone;
            } else {
                missed++;
                shorts = Math.min(shorts + 1, TIMES_MOST);
            }
            due = Kind.nextIn(kind);
            return gone;
        }
    }

    private static final class Office {
        private final Person[] room = new Person[PEOPLE_MOST];
        private final Person nobody = new Person();
        int people;
        int store;
        int worn;
        int day;

        Office() {
            for (int p = 0; p < room.length; p++) room[p] = new Person();
        }

        boolean knows(int person) {
            return person >= 0 && person < people;
        }

        Person at(int person) {
            return person >= 0 && person < room.length ? room[person] : nobody;
        }

        void takeFrom(Office office) {
            people = office.people;
            store = office.store;
            worn = office.worn;
            day = office.day;
            for (int p = 0; p < people; p++) at(p).takeFrom(office.at(p));
        }

        boolean welcome(int kind, int figure, int due) {
            if (people >= room.length || due > DUE_MOST) return false;
            Person one = at(people);
            one.takeFrom(nobody);
            one.kind = kind;
            one.figure = figure;
            one.due = due;
            people++;
            return true;
        }

        boolean issue(int person, int grains) {
            if (!knows(person) || grains > store || at(person).has + grains > GRAINS_MOST) return false;
            at(person).has += grains;
            store -= grains;
            return true;
        }

        boolean handIn(int person) {
            if (!knows(person)) return false;
            int whole = store + at(person).has;
            at(person).has = 0;
            store = Math.min(whole, STORE_MOST);
            wear(whole - store);
            return true;
        }

        boolean setDue(int person, int due) {
            if (!knows(person) || due > DUE_MOST) return false;
            at(person).due = due;
            return true;
        }

        boolean fill(int grains) {
            if (store + grains > STORE_MOST) return false;
            store += grains;
            return true;
        }

        boolean daysCome(int n) {
            if (n < 1 || n > DUE_MOST || day + n > DAY_MOST) return false;
            daysGoBy(n);
            return true;
        }

        void daysGoBy(int n) {
            for (int i = 0; i < n; i++) {
                day++;
                for (int p = 0; p < people; p++) wear(at(p).oneDay());
            }
        }

        private void wear(int grains) {
            worn = Math.min(worn + grains, WORN_MOST);
        }

        /** Each whose DUE is 1 has what he lacks; the first whom the STORE refuses, or NONE. */
        int issueAhead() {
            for (int p = 0; p < people; p++) {
                Person one = at(p);
                if (one.due == 1 && !issue(p, one.lacking())) return p;
            }
            return NONE;
        }

        int firstMissing() {
            for (int p = 0; p < people; p++) {
                if (at(p).missed > 0) return p;
            }
            return NONE;
        }

        boolean lackAll(int set) {
            for (int p = 0; p < people; p++) {
                if ((set >> p & 1) == 1 && at(p).lacking() == 0) return false;
            }
            return true;
        }

        int lackOf(int set) {
            int sum = 0;
            for (int p = 0; p < people; p++) {
                if ((set >> p & 1) == 1) sum += at(p).lacking();
            }
            return sum;
        }

        int allThrough() {
            int sum = 0;
            for (int p = 0; p < people; p++) sum += at(p).through;
            return sum;
        }

        int allShort() {
            int sum = 0;
            for (int p = 0; p < people; p++) sum += at(p).shorts;
            return sum;
        }

        int allHas() {
            int sum = 0;
            for (int p = 0; p < people; p++) sum += at(p).has;
            return sum;
        }

        int allWithMatter() {
            int sum = 0;
            for (int p = 0; p < people; p++) {
                if (at(p).due > 0) sum++;
            }
            return sum;
        }
    }

    // ---- letters

    private static final class Text {
        private final int[] letters = new int[LETTERS_MOST];
        int count;

        void add(int letter) {
            if (count >= 0 && count < letters.length) letters[count++] = letter;
        }

        /** The letter there; -1, which no letter is, at the end. */
        int letterAt(int place) {
            return place >= 0 && place < count && place < letters.length ? letters[place] : -1;
        }

        int kindAt(int place) {
            int letter = letterAt(place);
            return letter < 0 ? -1 : KIND_LETTERS.indexOf((char) letter);
        }

        int number(int place, int digits) {
            int value = 0;
            for (int i = 0; i < digits; i++) value = value * 10 + letterAt(place + i) - '0';
            return value;
        }

        int lengthAt(int place) {
            return 1 + behind(letterAt(place)).length();
        }

        /** The place of the first letter with which no COUNTER can go on, or -1. */
        int firstWrong() {
            if (count == 0) return 0;
            int place = 0;
            while (place < count) {
                String shape = behind(letterAt(place));
                if (shape.isEmpty()) return place;
                place++;
                for (int i = 0; i < shape.length(); i++) {
                    if (!fits(place, shape.charAt(i))) return place;
                    place++;
                }
            }
            return -1;
        }

        /** What goes behind a STATEMENT's first letter: k a letter of a KIND, 0 a digit. */
        private static String behind(int letter) {
            switch (letter) {
                case 'p': return "k000;";
                case 'i': return "000;";
                case 'r': return "0;";
                case 'u': return "000;";
                case 'g': return "000;";
                case 'd': return "00;";
                default: return "";
            }
        }

        private boolean fits(int place, int sign) {
            int letter = letterAt(place);
            switch (sign) {
                case 'k': return kindAt(place) >= 0;
                case '0': return letter >= '0' && letter <= '9';
                default: return letter == sign;
            }
        }
    }
}
