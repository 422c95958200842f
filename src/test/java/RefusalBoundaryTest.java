/** The promises 1 to 39: the ends of each argument, each REFUSAL, which of two comes, and that nothing changes by it. */
public final class RefusalBoundaryTest {
    private static final int MIN = Integer.MIN_VALUE;
    private static final int MAX = Integer.MAX_VALUE;
    private static final int AS_INT = 1000000000;
    private static final long AS_LONG = 4000000000000000000L;

    private static int right = 0;
    private static int wrong = 0;
    private static String promise = "";

    private interface Call {
        long of(GritIsIssued x);
    }

    private static void promise(String words) {
        promise = words;
    }

    private static void due(String call, long got, long want) {
        if (got == want) {
            right++;
        } else {
            wrong++;
            System.out.println(promise + ": " + call + " answered " + got + ", due is " + want);
        }
    }

    private static void same(String call, String got, String want) {
        if (!got.equals(want)) System.out.println("seen is " + got + ", due is " + want);
        due(call, got.equals(want) ? 1 : 0, 1);
    }

    private static void spell(GritIsIssued x, String letters) {
        for (int i = 0; i < letters.length(); i++) x.letter(letters.charAt(i));
    }

    private static int tell(GritIsIssued x, String letters) {
        spell(x, letters);
        return x.counter();
    }

    private static GritIsIssued told(String letters) {
        GritIsIssued x = new GritIsIssued();
        int statements = tell(x, letters);
        if (statements < 0) due("told " + letters, statements, 1);
        return x;
    }

    private static GritIsIssued onDay(int day) {
        GritIsIssued x = new GritIsIssued();
        for (int left = day; left > 0; left -= 60) x.days(Math.min(60, left));
        return x;
    }

    /** Two PEOPLE (0 HAS 60, 1 none), STORE 30, a ROW of two, three letters, and an image of before. */
    private static GritIsIssued usual() {
        GritIsIssued x = told("pc501;g090;i020;");
        x.days(1);
        x.image();
        tell(x, "pm000;i043;g003;");
        x.row(7);
        x.row(0);
        spell(x, "g00");
        return x;
    }

    /** All that can be seen of it but REFUSALS. */
    private static String seen(GritIsIssued x) {
        StringBuilder all = new StringBuilder();
        for (int what = 0; what <= 7; what++) all.append(x.count(what)).append(' ');
        int people = x.count(0);
        for (int p = 0; p < people; p++) {
            for (int what = 0; what <= 7; what++) all.append(x.person(p, what)).append(' ');
        }
        return all.toString();
    }

    private static String refusals(GritIsIssued x) {
        StringBuilder all = new StringBuilder();
        for (int what = 11; what <= 16; what++) all.append(x.count(what)).append(' ');
        return all.toString();
    }

    private static String refusalsWith(GritIsIssued x, int number) {
        StringBuilder all = new StringBuilder();
        for (int what = 11; what <= 16; what++) all.append(x.count(what) + (what == 10 - number ? 1 : 0)).append(' ');
        return all.toString();
    }

    /** The call on that object answers the REFUSAL, which is counted, and nothing else changes. */
    private static void refusedOf(GritIsIssued x, String call, int number, long told, Call asked) {
        String before = seen(x);
        String counted = refusalsWith(x, number);
        due(call, asked.of(x), told);
        same(call + " changes nothing", seen(x), before);
        same(call + " is counted", refusals(x), counted);
    }

    private static void refused(String call, int number, long told, Call asked) {
        GritIsIssued x = usual();
        refusedOf(x, call, number, told, asked);
        GritIsIssued other = usual();
        other.on();
        x.on();
        same(call + " leaves the image", seen(x), seen(other));
    }

    private static void refused(String call, int number, Call asked) {
        refused(call, number, number, asked);
    }

    private static void changesNothing(String call, Call asked) {
        GritIsIssued x = usual();
        String before = seen(x);
        String counted = refusals(x);
        long answer = asked.of(x);
        same(call + " changes nothing", seen(x), before);
        same(call + " is no REFUSAL", refusals(x), counted);
        due(call + " once more", asked.of(x), answer);
    }

    public static void main(String[] args) {
        aNewObject();
        letter();
        counter();
        person();
        issues();
        returns();
        dueOf();
        fills();
        turn();
        days();
        then();
        firstAndLasts();
        enough();
        plans();
        borrowAndGrain();
        sharesAndTrust();
        two();
        slip();
        mean();
        whatIs();
        row();
        judgeAndClear();
        lots();
        image();
        on();
        count();
        asking();
        changing();
        lastCall();
        System.out.println(right + " passed, " + wrong + " failed");
        if (wrong != 0) System.exit(1);
    }

    // ---- the counter

    private static void aNewObject() {
        promise("promise 1, Nobody, STORE 0");
        GritIsIssued x = new GritIsIssued();
        due("PEOPLE", x.count(0), 0);
        due("STORE", x.count(2), 0);
        due("nobody is 0", x.person(0, 0), -1);
        same("nothing else", seen(new GritIsIssued()), "0 0 0 0 0 0 0 0 ");
        same("no REFUSALS", refusals(new GritIsIssued()), "0 0 0 0 0 0 ");
        due("no image", x.on(), -3);
        due("of two objects each has its own", told("g005;").count(2) - new GritIsIssued().count(2), 5);
    }

    private static void letter() {
        promise("promise 2, letter (0 .. 255): -4; -6 (255; 96, too)");
        GritIsIssued x = new GritIsIssued();
        due("0", x.letter(0), 1);
        due("255", x.letter(255), 2);
        refused("-1", -4, y -> y.letter(-1));
        refused("least int", -4, y -> y.letter(MIN));
        refused("256", -6, y -> y.letter(256));
        refused("greatest int", -6, y -> y.letter(MAX));
        for (int i = 3; i <= 96; i++) due("letter", x.letter('g'), i);
        refusedOf(x, "a 97th", -6, -6, y -> y.letter('g'));
        refusedOf(x, "below and a 97th", -4, -4, y -> y.letter(-1));
        x.counter();
        due("the first again", x.letter('g'), 1);
    }

    private static void counter() {
        promise("promise 3, the letters become a COUNTER, and are no more (with a FAULT neither)");
        String[] texts = {"", "g001;g002;", "g001;x", "g001;g", "g001;r5;"};
        int[] answers = {-1000, 2, -1005, -1006, -2005};
        for (int i = 0; i < texts.length; i++) {
            GritIsIssued x = new GritIsIssued();
            spell(x, texts[i]);
            due("letters", x.count(7), texts[i].length());
            due("\"" + texts[i] + "\"", x.counter(), answers[i]);
            due("letters", x.count(7), 0);
            same("nothing is counted", refusals(x), "0 0 0 0 0 0 ");
            due("none are left", x.counter(), -1000);
            due("a COUNTER then", tell(x, "g003;"), 1);
            due("STORE", x.count(2), i == 1 ? 6 : 3);
        }
    }

    private static void person() {
        promise("promise 4, person: -1; -2");
        GritIsIssued x = usual();
        int[] wants = {0, 5, 60, 7, 1, 0, 6, 0};
        for (int what = 0; what <= 7; what++) due("what " + what, x.person(0, what), wants[what]);
        due("the last one", x.person(1, 0), 1);
        refused("-1", -1, y -> y.person(-1, 0));
        refused("2 of two", -1, y -> y.person(2, 0));
        refused("8", -1, y -> y.person(8, 0));
        refused("least int", -1, y -> y.person(MIN, 0));
        refused("greatest int", -1, y -> y.person(MAX, 0));
        refused("what -1", -2, y -> y.person(0, -1));
        refused("what 8", -2, y -> y.person(0, 8));
        refused("what least int", -2, y -> y.person(0, MIN));
        refused("what greatest int", -2, y -> y.person(0, MAX));
        refused("both", -1, y -> y.person(2, 8));
    }

    private static void issues() {
        promise("promise 5, issues: -1; -4; -6 99; -3 the STORE has not so many, or HAS would be above 99");
        due("none", usual().issues(0, 0), 30);
        due("all that the STORE has", usual().issues(1, 30), 0);
        refused("one more than it has", -3, y -> y.issues(1, 31));
        refused("99", -3, y -> y.issues(1, 99));
        GritIsIssued x = told("pc000;g999;i060;");
        due("HAS 99 then", x.issues(0, 39), 900);
        due("none", x.issues(0, 0), 900);
        refusedOf(x, "HAS 100 then", -3, -3, y -> y.issues(0, 1));
        x.returns(0);
        due("99", x.issues(0, 99), 900);
        refusedOf(told("pc000;g999;i060;"), "HAS 100 then", -3, -3, y -> y.issues(0, 40));
        refused("-1", -1, y -> y.issues(-1, 0));
        refused("2 of two", -1, y -> y.issues(2, 0));
        refused("least int", -1, y -> y.issues(MIN, 0));
        refused("greatest int", -1, y -> y.issues(MAX, 0));
        refused("v -1", -4, y -> y.issues(0, -1));
        refused("v least int", -4, y -> y.issues(0, MIN));
        refused("v 100", -6, y -> y.issues(0, 100));
        refused("v greatest int", -6, y -> y.issues(0, MAX));
        refused("nobody and below", -1, y -> y.issues(2, -1));
        refused("nobody and above", -1, y -> y.issues(2, 100));
        refused("nobody and more than the STORE has", -1, y -> y.issues(2, 31));
    }

    private static void returns() {
        promise("promise 6, returns: -1; -3 he HAS none");
        due("all", usual().returns(0), 90);
        refused("he HAS none", -3, y -> y.returns(1));
        refused("-1", -1, y -> y.returns(-1));
        refused("2 of two", -1, y -> y.returns(2));
        refused("least int", -1, y -> y.returns(MIN));
        refused("greatest int", -1, y -> y.returns(MAX));
        GritIsIssued one = told("pc000;g001;i001;");
        due("one", one.returns(0), 1);
        refusedOf(one, "none now", -3, -3, y -> y.returns(0));
    }

    private static void dueOf() {
        promise("promise 7, due becomes v: what it was; -1; -4; -6 60");
        GritIsIssued x = usual();
        due("0", x.due(0, 0), 7);
        due("DUE", x.person(0, 3), 0);
        due("60", x.due(0, 60), 0);
        due("DUE", x.person(0, 3), 60);
        due("1", x.due(0, 1), 60);
        due("DUE", x.person(0, 3), 1);
        refused("-1", -1, y -> y.due(-1, 0));
        refused("2 of two", -1, y -> y.due(2, 0));
        refused("least int", -1, y -> y.due(MIN, 0));
        refused("greatest int", -1, y -> y.due(MAX, 0));
        refused("v -1", -4, y -> y.due(0, -1));
        refused("v least int", -4, y -> y.due(0, MIN));
        refused("v 61", -6, y -> y.due(0, 61));
        refused("v greatest int", -6, y -> y.due(0, MAX));
        refused("nobody and below", -1, y -> y.due(2, -1));
        refused("nobody and above", -1, y -> y.due(2, 61));
    }

    private static void fills() {
        promise("promise 8, fills (99 at most): -4; -6 (99; STORE above 999)");
        due("none", usual().fills(0), 30);
        due("99", usual().fills(99), 129);
        refused("-1", -4, y -> y.fills(-1));
        refused("least int", -4, y -> y.fills(MIN));
        refused("100", -6, y -> y.fills(100));
        refused("greatest int", -6, y -> y.fills(MAX));
        due("STORE 999 then", told("g900;").fills(99), 999);
        refusedOf(told("g901;"), "STORE 1000 then", -6, -6, y -> y.fills(99));
        refusedOf(told("g999;"), "STORE 1000 then", -6, -6, y -> y.fills(1));
        refusedOf(told("g999;"), "below", -4, -4, y -> y.fills(-1));
        due("none more", told("g999;").fills(0), 999);
    }

    private static void turn() {
        promise("promise 9, turn: 10 times the KIND and the FIGURE it had; -1; -2; -4; -6 9");
        GritIsIssued x = usual();
        due("5, 9", x.turn(0, 5, 9), 5);
        due("KIND", x.person(0, 0), 5);
        due("FIGURE", x.person(0, 1), 9);
        due("0, 0", x.turn(0, 0, 0), 59);
        due("KIND", x.person(0, 0), 0);
        due("FIGURE", x.person(0, 1), 0);
        due("again", x.turn(0, 0, 0), 0);
        due("HAS stays", x.person(0, 2), 60);
        due("DUE stays", x.person(0, 3), 7);
        due("THROUGH stays", x.person(0, 4), 1);
        refused("-1", -1, y -> y.turn(-1, 0, 0));
        refused("2 of two", -1, y -> y.turn(2, 0, 0));
        refused("least int", -1, y -> y.turn(MIN, 0, 0));
        refused("greatest int", -1, y -> y.turn(MAX, 0, 0));
        refused("KIND -1", -2, y -> y.turn(0, -1, 0));
        refused("KIND 6", -2, y -> y.turn(0, 6, 0));
        refused("KIND least int", -2, y -> y.turn(0, MIN, 0));
        refused("KIND greatest int", -2, y -> y.turn(0, MAX, 0));
        refused("FIGURE -1", -4, y -> y.turn(0, 0, -1));
        refused("FIGURE least int", -4, y -> y.turn(0, 0, MIN));
        refused("FIGURE 10", -6, y -> y.turn(0, 0, 10));
        refused("FIGURE greatest int", -6, y -> y.turn(0, 0, MAX));
        refused("nobody and other", -1, y -> y.turn(2, 6, 0));
        refused("nobody and below", -1, y -> y.turn(2, 0, -1));
        refused("nobody and above", -1, y -> y.turn(2, 0, 10));
        refused("other and below", -2, y -> y.turn(0, 6, -1));
        refused("other and above", -2, y -> y.turn(0, -1, 10));
    }

    private static void days() {
        promise("promise 10, n DAYS (1 .. 60) go by: -4; -6 (60; DAY above 999)");
        GritIsIssued x = usual();
        due("one", x.days(1), 0);
        due("DAY", x.count(1), 2);
        // DUE 6 then, and each 7 DAYS: 8 more matters in 60, of which 60 does for all
        due("60", x.days(60), 8);
        due("DAY", x.count(1), 62);
        refused("none", -4, y -> y.days(0));
        refused("-1", -4, y -> y.days(-1));
        refused("least int", -4, y -> y.days(MIN));
        refused("61", -6, y -> y.days(61));
        refused("greatest int", -6, y -> y.days(MAX));
        GritIsIssued last = onDay(939);
        due("DAY 999 then", last.days(60), 0);
        due("DAY", last.count(1), 999);
        refusedOf(last, "DAY 1000 then", -6, -6, y -> y.days(1));
        refusedOf(last, "none", -4, -4, y -> y.days(0));
        refusedOf(onDay(940), "DAY 1000 then", -6, -6, y -> y.days(60));
        due("DAY 999 then", onDay(940).days(59), 0);
        sameDaysApart();
    }

    private static void sameDaysApart() {
        GritIsIssued at = told("pm001;pc307;g999;i099;i140;");
        GritIsIssued apart = told("pm001;pc307;g999;i099;i140;");
        int sum = 0;
        for (int i = 0; i < 60; i++) sum += apart.days(1);
        due("60 at once are 60 apart", at.days(60), sum);
        same("60 at once are 60 apart", seen(at), seen(apart));
    }

    // ---- in mind

    private static void then() {
        promise("promise 11, personThen: -1; -4; -6 99; -2");
        for (int what = 0; what <= 4; what++) {
            due("none on", usual().personThen(0, 0, what), new int[] {60, 7, 1, 0, 0}[what]);
        }
        // DAYS 7, 14, .. 98
        due("99 on", usual().personThen(0, 99, 2), 15);
        refused("-1", -1, y -> y.personThen(-1, 0, 0));
        refused("2 of two", -1, y -> y.personThen(2, 0, 0));
        refused("least int", -1, y -> y.personThen(MIN, 0, 0));
        refused("greatest int", -1, y -> y.personThen(MAX, 0, 0));
        refused("n -1", -4, y -> y.personThen(0, -1, 0));
        refused("n least int", -4, y -> y.personThen(0, MIN, 0));
        refused("n 100", -6, y -> y.personThen(0, 100, 0));
        refused("n greatest int", -6, y -> y.personThen(0, MAX, 0));
        refused("what -1", -2, y -> y.personThen(0, 0, -1));
        refused("what 5", -2, y -> y.personThen(0, 0, 5));
        refused("what least int", -2, y -> y.personThen(0, 0, MIN));
        refused("what greatest int", -2, y -> y.personThen(0, 0, MAX));
        refused("nobody and below", -1, y -> y.personThen(2, -1, 0));
        refused("nobody and above", -1, y -> y.personThen(2, 100, 0));
        refused("nobody and other", -1, y -> y.personThen(2, 0, 5));
        refused("below and other", -4, y -> y.personThen(0, -1, 5));
        refused("above and other", -6, y -> y.personThen(0, 100, 5));
        promise("promise 12, allThen: -4; -6 99; -2");
        for (int what = 0; what <= 2; what++) due("none on", usual().allThen(0, what), new int[] {1, 0, 3}[what]);
        due("99 on", usual().allThen(99, 0), 15);
        refused("n -1", -4, y -> y.allThen(-1, 0));
        refused("n least int", -4, y -> y.allThen(MIN, 0));
        refused("n 100", -6, y -> y.allThen(100, 0));
        refused("n greatest int", -6, y -> y.allThen(MAX, 0));
        refused("what -1", -2, y -> y.allThen(0, -1));
        refused("what 3", -2, y -> y.allThen(0, 3));
        refused("what least int", -2, y -> y.allThen(0, MIN));
        refused("what greatest int", -2, y -> y.allThen(0, MAX));
        refused("below and other", -4, y -> y.allThen(-1, 3));
        refused("above and other", -6, y -> y.allThen(100, 3));
    }

    private interface Asked {
        long of(GritIsIssued x, int v);
    }

    private static void refusedPeople(Asked asked, long nobody) {
        int[] ones = {-1, 2, 8, MIN, MAX};
        for (int one : ones) refused("person " + one, -1, nobody, y -> asked.of(y, one));
    }

    private static void refusedBeside(int least, int most, Asked asked) {
        int[] below = {least - 1, -1, MIN};
        int[] above = {most + 1, MAX};
        for (int v : below) refused("" + v, -4, y -> asked.of(y, v));
        for (int v : above) refused("" + v, -6, y -> asked.of(y, v));
        taken(least, asked);
        taken(most, asked);
    }

    private static void refusedOthers(int last, Asked asked) {
        int[] others = {-1, last + 1, MIN, MAX};
        for (int what : others) refused("what " + what, -2, y -> asked.of(y, what));
        for (int what = 0; what <= last; what++) taken(what, asked);
    }

    private static void taken(int v, Asked asked) {
        GritIsIssued x = usual();
        String counted = refusals(x);
        asked.of(x, v);
        same(v + " is no REFUSAL", refusals(x), counted);
    }

    private static void firstAndLasts() {
        promise("promise 13, first: -2");
        refusedOthers(1, (y, what) -> y.first(what));
        promise("promise 14, lasts: -1");
        refusedPeople((y, one) -> y.lasts(one), -1);
        promise("promise 16, next: -2");
        refusedOthers(1, (y, what) -> y.next(what));
    }

    private static void enough() {
        promise("promise 17, enough: -1; -4 below 1; -6 60");
        refusedPeople((y, one) -> y.enough(one, 1), -1);
        refusedBeside(1, 60, (y, n) -> y.enough(0, n));
        refused("nobody and below", -1, y -> y.enough(2, 0));
        refused("nobody and above", -1, y -> y.enough(2, 61));
    }

    private static void plans() {
        promise("promise 18, serve: -2");
        refusedOthers(2, (y, what) -> y.serve(what));
        promise("promise 19, best: -4 below 1; -6 30; -2");
        refusedBeside(1, 30, (y, n) -> y.best(n, 0));
        refusedOthers(1, (y, what) -> y.best(1, what));
        refused("below and other", -4, y -> y.best(0, 2));
        refused("above and other", -6, y -> y.best(31, 2));
        promise("promise 20, run: -2");
        refusedOthers(1, (y, what) -> y.run(what));
        promise("promise 21, stock: -4 below 1; -6 30");
        refusedBeside(1, 30, (y, n) -> y.stock(n));
    }

    private static void borrowAndGrain() {
        promise("promise 22, borrow: -1; -4 below 1; -6 30");
        refusedPeople((y, one) -> y.borrow(one, 1), -1);
        refusedBeside(1, 30, (y, n) -> y.borrow(0, n));
        refused("nobody and below", -1, y -> y.borrow(2, 0));
        refused("nobody and above", -1, y -> y.borrow(2, 31));
        promise("promise 23, sweep: -4 below 1; -6 30; -2");
        refusedBeside(1, 30, (y, n) -> y.sweep(n, 0));
        refusedOthers(1, (y, what) -> y.sweep(1, what));
        refused("below and other", -4, y -> y.sweep(0, 2));
        refused("above and other", -6, y -> y.sweep(31, 2));
        promise("promise 24, grain: -4 below 1; -6 30");
        refusedBeside(1, 30, (y, n) -> y.grain(n));
    }

    private static void sharesAndTrust() {
        promise("promise 25, shares: -2");
        refusedOthers(1, (y, what) -> y.shares(what));
        promise("promise 27, trusted: refused as told, -1");
        refusedPeople((y, one) -> y.trusted(one), AS_INT + 1);
        due("-1 is told as 1000000001", new GritIsIssued().trusted(0), 1000000001);
    }

    private static void two() {
        promise("promise 29, two: -1 either (one twice, too); -4 below 1; -6 30");
        refusedPeople((y, one) -> y.two(one, 0, 1), -1);
        refusedPeople((y, one) -> y.two(0, one, 1), -1);
        refusedPeople((y, one) -> y.two(one, one, 1), -1);
        refused("one twice", -1, y -> y.two(0, 0, 1));
        refused("one twice", -1, y -> y.two(1, 1, 1));
        refusedBeside(1, 30, (y, n) -> y.two(0, 1, n));
        refusedBeside(1, 30, (y, n) -> y.two(1, 0, n));
        refused("one twice and below", -1, y -> y.two(0, 0, 0));
        refused("nobody and above", -1, y -> y.two(0, 2, 31));
        refused("nobody and below", -1, y -> y.two(2, 0, 0));
    }

    // ---- odds

    private static void slipRefused(String call, int number, int person, int n, int t, int v, int part) {
        refused(call, number, AS_LONG - number, y -> y.slip(person, n, t, v, part));
    }

    private static void slip() {
        promise("promise 30, slip, refused as told: -1; -4 (n, v; t below 2); -6 (7; 20; 9); -2");
        refusedPeople((y, one) -> y.slip(one, 0, 2, 0, 0), AS_LONG + 1);
        int[] below = {-1, MIN};
        for (int v : below) {
            slipRefused("n " + v, -4, 0, v, 2, 0, 0);
            slipRefused("v " + v, -4, 0, 0, 2, v, 0);
            slipRefused("t " + v, -4, 0, 0, v, 0, 0);
            slipRefused("part " + v, -2, 0, 0, 2, 0, v);
        }
        slipRefused("t 0", -4, 0, 0, 0, 0, 0);
        slipRefused("t 1", -4, 0, 0, 1, 0, 0);
        slipRefused("n 8", -6, 0, 8, 2, 0, 0);
        slipRefused("t 21", -6, 0, 0, 21, 0, 0);
        slipRefused("v 10", -6, 0, 0, 2, 10, 0);
        slipRefused("n greatest int", -6, 0, MAX, 2, 0, 0);
        slipRefused("t greatest int", -6, 0, 0, MAX, 0, 0);
        slipRefused("v greatest int", -6, 0, 0, 2, MAX, 0);
        slipRefused("part 2", -2, 0, 0, 2, 0, 2);
        slipRefused("part greatest int", -2, 0, 0, 2, 0, MAX);
        slipRefused("nobody and below", -1, 2, -1, 1, -1, 0);
        slipRefused("nobody and above", -1, 2, 8, 21, 10, 0);
        slipRefused("nobody and other", -1, 2, 0, 2, 0, 2);
        slipRefused("n above and t below", -4, 0, 8, 1, 0, 0);
        slipRefused("n above and v below", -4, 0, 8, 2, -1, 0);
        slipRefused("t above and v below", -4, 0, 0, 21, -1, 0);
        slipRefused("v above and n below", -4, 0, -1, 2, 10, 0);
        slipRefused("below and other", -4, 0, -1, 2, 0, 2);
        slipRefused("n above and other", -6, 0, 8, 2, 0, 2);
        slipRefused("t above and other", -6, 0, 0, 21, 0, 2);
        slipRefused("v above and other", -6, 0, 0, 2, 10, 2);
        due("all least", usual().slip(0, 0, 2, 0, 0), 1);
        due("all greatest", usual().slip(0, 7, 20, 9, 1), 1);
        due("-1 as 4000000000000000001", new GritIsIssued().slip(0, 0, 2, 0, 0), 4000000000000000001L);
    }

    private static void mean() {
        promise("promise 31, mean, refused as told: -2");
        int[] others = {-1, 2, MIN, MAX};
        for (int part : others) refused("part " + part, -2, AS_LONG + 2, y -> y.mean(part));
        due("above", usual().mean(0), 30);
        due("below", usual().mean(1), 1);
    }

    // ---- the ROW

    private static void whatIs() {
        promise("promise 32, whatIs by the ROW (it stays): -1; -2");
        refusedPeople((y, one) -> y.whatIs(one, 0), -1);
        refusedOthers(1, (y, what) -> y.whatIs(0, what));
        refused("nobody and other", -1, y -> y.whatIs(2, 2));
        changesNothing("whatIs", y -> y.whatIs(0, 0));
        GritIsIssued x = usual();
        x.whatIs(0, 1);
        due("it stays: 7 is so, 0 too", x.judge(), -9);
    }

    private static void row() {
        promise("promise 33, row (0 .. 99): -4; -6 (99; 16, too)");
        GritIsIssued x = new GritIsIssued();
        due("0", x.row(0), 1);
        due("99", x.row(99), 2);
        refused("-1", -4, y -> y.row(-1));
        refused("least int", -4, y -> y.row(MIN));
        refused("100", -6, y -> y.row(100));
        refused("greatest int", -6, y -> y.row(MAX));
        for (int i = 3; i <= 16; i++) due("row", x.row(i), i);
        refusedOf(x, "a 17th", -6, -6, y -> y.row(0));
        refusedOf(x, "below and a 17th", -4, -4, y -> y.row(-1));
    }

    private static void judgeAndClear() {
        promise("promise 34, judge: -9 (whichever it answers, the ROW has none then)");
        GritIsIssued so = usual();
        due("all so", so.judge(), -9);
        due("the ROW", so.count(6), 0);
        GritIsIssued not = usual();
        not.row(1);
        due("nobody there", not.judge(), 2);
        due("the ROW", not.count(6), 0);
        not.row(6);
        due("not so", not.judge(), 0);
        due("the ROW", not.count(6), 0);
        due("no ROW", not.judge(), -9);
        due("a ROW then", not.row(1), 1);
        same("no REFUSAL", refusals(not), refusals(usual()));
        promise("promise 35, clear: how many it had");
        GritIsIssued x = usual();
        due("two", x.clear(), 2);
        due("the ROW", x.count(6), 0);
        due("none", x.clear(), 0);
        for (int i = 1; i <= 16; i++) x.row(i);
        due("16", x.clear(), 16);
        due("the first again", x.row(9), 1);
        same("no REFUSAL", refusals(x), refusals(usual()));
    }

    // ---- LOTS, the image, counts

    private static void lots() {
        promise("promise 36, lots: -4; -6 20; -2");
        refusedBeside(1, 20, (y, n) -> y.lots(n, 0, 0));
        refusedOthers(1, (y, what) -> y.lots(1, 0, what));
        refused("below and other", -4, y -> y.lots(0, 0, 2));
        refused("above and other", -6, y -> y.lots(21, 0, 2));
        int[] seeds = {MIN, -1, 0, 1, MAX};
        for (int z : seeds) taken(z, (y, seed) -> y.lots(1, seed, 0));
    }

    private static void image() {
        promise("promise 37, image: DAY; all that there is, but it, the ROW, letters, REFUSALS");
        due("on the first", new GritIsIssued().image(), 0);
        due("on the last", onDay(999).image(), 999);
        GritIsIssued x = usual();
        String before = seen(x);
        due("DAY", x.image(), 1);
        same("nothing changes", seen(x), before);
        same("no REFUSAL", refusals(x), refusals(usual()));
        // all of it becomes other
        x.days(9);
        x.turn(0, 3, 1);
        x.due(0, 9);
        x.returns(0);
        x.fills(9);
        x.issues(1, 9);
        x.due(1, 2);
        x.turn(1, 2, 8);
        x.days(9);
        due("0 is SHORT", x.person(0, 5), 1);
        due("1 is SHORT", x.person(1, 5), 1);
        due("a CLERK WORE 3", x.count(3), 6);
        x.counter();
        tell(x, "pg901;g001;i201;");
        x.clear();
        x.row(5);
        spell(x, "x");
        x.person(9, 9);
        due("ON: DAY", x.on(), 1);
        String all = seen(x);
        // the ROW and letters are as they are: one each
        GritIsIssued want = usual();
        want.clear();
        want.row(5);
        want.counter();
        spell(want, "x");
        same("all is as then", all, seen(want));
        due("REFUSALS stay", x.count(11), 1);
        x.days(30);
        due("another image is taken", x.image(), 31);
        x.days(1);
        due("ON from the last one", x.on(), 31);
        due("DAY", x.count(1), 31);
    }

    private static void on() {
        promise("promise 38, on: -3 there is none");
        GritIsIssued none = told("pc101;g009;");
        refusedOf(none, "no image", -3, -3, y -> y.on());
        refusedOf(none, "no image", -3, -3, y -> y.on());
        none.image();
        due("there is one", none.on(), 0);
        due("it is not used up", none.on(), 0);
        GritIsIssued last = onDay(60);
        last.image();
        for (int i = 0; i < 15; i++) last.days(60);
        due("back from a full DAY", last.on(), 60);
        due("DAYS go by again", last.days(1), 0);
        GritIsIssued full = new GritIsIssued();
        full.image();
        tell(full, "pc000;pc000;pc000;pc000;pc000;pc000;pc000;pc000;g999;");
        due("ON", full.on(), 0);
        due("PEOPLE", full.count(0), 0);
        due("nobody is 0", full.person(0, 0), -1);
        due("room for eight", tell(full, "pm100;pm100;pm100;pm100;pm100;pm100;pm100;pm100;g999;"), 9);
        // one who HAS many, few, none, one too few
        nobodyAgain("pm001;i030;");
        nobodyAgain("pm001;i007;");
        nobodyAgain("pm001;");
        nobodyAgain("pm001;i006;");
        GritIsIssued x = told("pm001;g099;");
        x.image();
        tell(x, "pc000;i109;");
        due("of him who came", x.borrow(0, 1), 1);
        x.on();
        due("of nobody", x.borrow(0, 1), -9);
        due("he is nobody", x.two(0, 1, 1), -1);
    }

    /** Who came behind the image is in no answer once it is as then. */
    private static void nobodyAgain(String who) {
        GritIsIssued x = told("g099;");
        x.image();
        tell(x, who);
        x.days(1);
        due("he is there", x.personThen(0, 1, 2) + x.personThen(0, 1, 3), 2);
        x.best(30, 0);
        x.allThen(0, 0);
        x.on();
        due("best", x.best(30, 0), 0);
        due("best", x.best(30, 1), 0);
        due("lacks", x.lacks(), 0);
        due("next", x.next(0), -9);
        due("first", x.first(0), -9);
        due("allThen", x.allThen(9, 0) + x.allThen(9, 1) + x.allThen(9, 2), 0);
        due("serve", x.serve(0), 0);
        due("run", x.run(0), -9);
        due("stock", x.stock(30), 0);
        due("sweep", x.sweep(9, 0), -9);
        due("grain", x.grain(9), -9);
        due("shares", x.shares(1), 99);
        due("richest", x.richest(), -9);
        due("worth", x.worth(), 0);
        due("mean", x.mean(1), 1);
        due("lots", x.lots(1, 0, 0) + x.lots(1, 0, 1), 0);
        due("all HAS", x.count(4), 0);
        due("a matter", x.count(5), 0);
        due("days", x.days(1), 0);
        due("WORN", x.count(3), 0);
        x.row(1);
        due("judge", x.judge(), 0);
        x.on();
        tell(x, "pm001;");
        due("who comes then HAS none", x.person(0, 2), 0);
        due("he got through nothing", x.person(0, 4), 0);
        due("he was not SHORT", x.person(0, 5), 0);
        due("borrow of nobody", x.borrow(0, 30), -9);
    }

    private static void count() {
        promise("promise 39, count: -9 for another what");
        int[] others = {-1, 8, 9, 10, 17, 18, MIN, MAX};
        for (int what : others) {
            due("count(" + what + ")", usual().count(what), -9);
            changesNothing("count(" + what + ")", y -> y.count(what));
        }
        int[] wants = {2, 1, 30, 3, 60, 1, 2, 3};
        for (int what = 0; what <= 7; what++) due("count(" + what + ")", usual().count(what), wants[what]);
        promise("promise 39, count: 11 .. 16 REFUSALS -1 .. -6");
        GritIsIssued x = usual();
        x.person(2, 0);
        x.person(0, 8);
        x.person(0, 8);
        x.returns(1);
        x.returns(1);
        x.returns(1);
        for (int i = 0; i < 4; i++) x.fills(-1);
        for (int i = 0; i < 5; i++) x.fills(100);
        same("each", refusals(x), "1 2 3 4 0 5 ");
        x.on();
        same("ON leaves them", refusals(x), "1 2 3 4 0 5 ");
        promise("promise 39, count: how many have a matter; all HAS");
        GritIsIssued y = told("pc060;pc001;pc000;g099;i050;i107;");
        due("two have one", y.count(5), 2);
        due("all HAS", y.count(4), 57);
        y.due(0, 0);
        y.due(1, 0);
        due("none has one", y.count(5), 0);
    }

    private static void asking() {
        promise("what asks changes nothing");
        changesNothing("personThen", y -> y.personThen(0, 99, 0));
        changesNothing("allThen", y -> y.allThen(99, 1));
        changesNothing("first", y -> y.first(0));
        changesNothing("lasts", y -> y.lasts(0));
        changesNothing("lacks", y -> y.lacks());
        changesNothing("next", y -> y.next(0));
        changesNothing("enough", y -> y.enough(0, 60));
        changesNothing("serve", y -> y.serve(2));
        changesNothing("best", y -> y.best(30, 0));
        changesNothing("run", y -> y.run(0));
        changesNothing("stock", y -> y.stock(30));
        changesNothing("borrow", y -> y.borrow(1, 30));
        changesNothing("sweep", y -> y.sweep(30, 0));
        changesNothing("grain", y -> y.grain(30));
        changesNothing("shares", y -> y.shares(0));
        changesNothing("richest", y -> y.richest());
        changesNothing("trusted", y -> y.trusted(0));
        changesNothing("worth", y -> y.worth());
        changesNothing("two", y -> y.two(0, 1, 30));
        changesNothing("slip", y -> y.slip(0, 7, 2, 1, 0));
        changesNothing("mean", y -> y.mean(0));
        changesNothing("whatIs", y -> y.whatIs(1, 1));
        changesNothing("lots", y -> y.lots(20, 5, 0));
    }

    /** All kinds of numbers of it have other values than at first; 0 is a CLERK of FIGURE 5, 1 a MOTHER of FIGURE 2. */
    private static GritIsIssued lived() {
        GritIsIssued x = told("pc501;pm202;g099;i026;i108;");
        x.days(15);
        x.row(7);
        spell(x, "g00");
        return x;
    }

    /** The numbers at these places of what is seen become these, all else stays. */
    private static void changes(String call, Call asked, int... placesAndNumbers) {
        GritIsIssued x = lived();
        String counted = refusals(x);
        String[] before = seen(x).split(" ");
        asked.of(x);
        for (int i = 0; i < placesAndNumbers.length; i += 2) before[placesAndNumbers[i]] = "" + placesAndNumbers[i + 1];
        same(call + " changes nothing else", seen(x), String.join(" ", before) + " ");
        same(call + " is no REFUSAL", refusals(x), counted);
    }

    private static void changing() {
        promise("what changes something changes nothing else");
        // the places: PEOPLE, DAY, STORE, WORN, all HAS, matters, ROW, letters; KIND, FIGURE, HAS, DUE, THROUGH, SHORT, NEEDS, LACKS of each
        same("as it is", seen(lived()), "2 15 65 12 22 2 1 3 " + "0 5 17 7 3 0 6 0 " + "1 2 5 1 1 13 7 2 ");
        changes("letter", x -> x.letter(0), 7, 4);
        changes("counter with a FAULT", x -> x.counter(), 7, 0);
        changes("counter", x -> tell(x, "5;"), 7, 0, 2, 70);
        changes("issues", x -> x.issues(1, 1), 2, 64, 4, 23, 18, 6, 23, 1);
        changes("returns", x -> x.returns(1), 2, 70, 4, 17, 18, 0, 23, 7);
        changes("due", x -> x.due(1, 5), 19, 5);
        changes("due, none", x -> x.due(1, 0), 19, 0, 5, 1, 23, 0);
        changes("fills", x -> x.fills(9), 2, 74);
        changes("turn", x -> x.turn(0, 2, 9), 8, 2, 9, 9, 14, 20, 15, 3);
        changes("a DAY", x -> x.days(1), 1, 16, 11, 6, 21, 14);
        changes("row", x -> x.row(99), 6, 2);
        changes("judge", x -> x.judge(), 6, 0);
        changes("clear", x -> x.clear(), 6, 0);
        changes("image", x -> x.image());
        changes("image and on", x -> x.image() + x.on());
    }

    private static void lastCall() {
        promise("at most 512 calls");
        GritIsIssued refused = new GritIsIssued();
        for (int i = 1; i <= 511; i++) refused.returns(0);
        due("the 512th tells 511 REFUSALS", refused.count(11), 511);
        GritIsIssued filled = new GritIsIssued();
        for (int i = 1; i <= 511; i++) filled.fills(1);
        due("the 512th tells 511 grains", filled.count(2), 511);
        GritIsIssued told = new GritIsIssued();
        // 102 COUNTERS of one DAY take 510 calls
        for (int i = 1; i <= 102; i++) tell(told, "d01;");
        told.letter('d');
        due("the 512th tells 102 DAYS", told.count(1), 102);
    }
}
