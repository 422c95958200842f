/** Each promise of ../shared/DOC.md with answers worked out by hand: ordinary inputs, edges, wrong inputs. */
public final class PromisesTest {
    private static final long LONG = 4000000000000000000L;
    private static final int INT = 1000000000;
    private static int right = 0;
    private static int wrong = 0;
    private static int promise = 0;

    private static void due(String call, long got, long want) {
        if (got == want) {
            right++;
        } else {
            wrong++;
            System.out.println("promise " + promise + ": " + call + " answered " + got + ", due is " + want);
        }
    }

    private static void spell(GritIsIssued x, String letters) {
        for (int i = 0; i < letters.length(); i++) x.letter(letters.charAt(i));
    }

    private static int tell(GritIsIssued x, String letters) {
        spell(x, letters);
        return x.counter();
    }

    private static GritIsIssued told(String letters) {
        GritIsIssued x = new GritIsIssued();
        int statements = tell(x, letters);
        if (statements < 0) due("told " + letters, statements, 1);
        return x;
    }

    public static void main(String[] args) {
        aNewObject();
        letter();
        counterOrdinary();
        counterFirstKindOfFault();
        counterSecondKindOfFault();
        person();
        issues();
        returns();
        dueOf();
        fills();
        turn();
        days();
        dayOfEachKind();
        endsOfNumbers();
        greatestThrough();
        greatestThroughOfTwo();
        greatestShort();
        personThen();
        allThen();
        first();
        lasts();
        lacks();
        next();
        enough();
        serve();
        best();
        run();
        stock();
        borrow();
        sweep();
        grain();
        shares();
        richest();
        trusted();
        worth();
        two();
        slip();
        mean();
        whatIs();
        row();
        judge();
        clear();
        lots();
        imageAndOn();
        count();
        System.out.println(right + " passed, " + wrong + " failed");
        if (wrong != 0) System.exit(1);
    }

    private static void aNewObject() {
        promise = 1;
        GritIsIssued x = new GritIsIssued();
        for (int what = 0; what <= 7; what++) due("count(" + what + ")", x.count(what), 0);
        for (int what = 11; what <= 16; what++) due("count(" + what + ")", x.count(what), 0);
        due("person(0, 0)", x.person(0, 0), -1);
        due("on()", x.on(), -3);
    }

    private static void letter() {
        promise = 2;
        GritIsIssued x = new GritIsIssued();
        due("letter(-1)", x.letter(-1), -4);
        due("letter(256)", x.letter(256), -6);
        due("letter(MIN)", x.letter(Integer.MIN_VALUE), -4);
        due("letter(MAX)", x.letter(Integer.MAX_VALUE), -6);
        due("letter(0)", x.letter(0), 1);
        due("letter(255)", x.letter(255), 2);
        for (int i = 3; i <= 96; i++) due("letter", x.letter('p'), i);
        due("letter(112) at 96", x.letter('p'), -6);
        due("letter(-1) at 96", x.letter(-1), -4);
        due("count(7)", x.count(7), 96);
        due("counter()", x.counter(), -1000);
        due("count(7)", x.count(7), 0);
        due("letter(112)", x.letter('p'), 1);
        due("count(14)", x.count(14), 3);
        due("count(16)", x.count(16), 3);
    }

    private static void counterOrdinary() {
        promise = 3;
        GritIsIssued x = new GritIsIssued();
        due("counter", tell(x, "g120;pc503;pm160;i010;i105;u107;d02;r0;"), 8);
        due("STORE", x.count(2), 115);
        due("DAY", x.count(1), 2);
        due("DUE of 0", x.person(0, 3), 1);
        due("DUE of 1", x.person(1, 3), 5);
        due("HAS of 1", x.person(1, 2), 5);
        due("HAS of 0", x.person(0, 2), 0);
        due("letters", x.count(7), 0);
        due("one that HAS none hands in", tell(x, "r0;"), 1);
        due("none and none", tell(x, "i000;g000;u100;"), 3);
        due("no matter", x.person(1, 3), 0);
        GritIsIssued full = new GritIsIssued();
        due("96 letters", tell(full, "pc000;pm101;ph202;pt303;pd404;pg505;pc660;pc700;g999;i099;i199;i299;i399;i499;d60;d01;u000;u100;"), 18);
        due("PEOPLE", full.count(0), 8);
        due("DAY", full.count(1), 61);
        for (int p = 0; p < 6; p++) due("KIND", full.person(p, 0), p);
        GritIsIssued day = told("d60;d60;d60;d60;d60;d60;d60;d60;d60;d60;d60;d60;d60;d60;d60;d60;");
        due("DAY 999", tell(day, "d39;"), 1);
        due("DAY", day.count(1), 999);
        due("DAY 1000", tell(day, "g001;d01;"), -2005);
        due("STORE", day.count(2), 0);
        GritIsIssued store = told("g999;pc000;i050;g050;r0;");
        due("STORE full", store.count(2), 999);
        due("WORN", store.count(3), 50);
    }

    private static void counterFirstKindOfFault() {
        promise = 3;
        GritIsIssued x = new GritIsIssued();
        String[] texts = {"", "q", ";", "p", "pc", "pC003;", "px", "pc5", "pca", "pc50", "pc503", "pc5033", "i", "ia", "i01", "i0;",
            "i0123", "r", "r;", "r00", "u", "u01;", "g12;", "g1234", "d1;", "d123", "d01;x", "d01;;", "d01;d", "d99;d9", "G001;"};
        int[] places = {0, 0, 0, 1, 2, 1, 1, 3, 2, 4, 5, 5, 1, 1, 3, 2, 4, 1, 1, 2, 1, 3, 3, 4, 2, 3, 4, 4, 5, 6, 0};
        for (int i = 0; i < texts.length; i++) due("\"" + texts[i] + "\"", tell(x, texts[i]), -1000 - places[i]);
        due("beside '0' and '9'", tell(x, "g0" + (char) ('0' - 1)), -1002);
        due("beside '0' and '9'", tell(x, "g0" + (char) ('9' + 1)), -1002);
        x.letter(0);
        due("letter 0", x.counter(), -1000);
        x.letter(255);
        due("letter 255", x.counter(), -1000);
        due("DAY", x.count(1), 0);
        due("letters", x.count(7), 0);
        for (int what = 11; what <= 16; what++) due("nothing is counted", x.count(what), 0);
    }

    private static void counterSecondKindOfFault() {
        promise = 3;
        GritIsIssued x = new GritIsIssued();
        String[] texts = {"pc061;", "g001;pc099;", "i000;", "r0;", "u000;", "d00;", "d61;", "pc000;i100;", "pc000;i800;", "pc000;r9;",
            "pc000;u101;", "pc000;u061;", "g010;pc000;i011;", "g200;pc000;i060;i040;", "g999;g001;", "pc000;pc000;pc000;pc000;pc000;pc000;pc000;pc000;pc000;",
            "g001;d01;d00;d99;", "i000;pc000;"};
        int[] places = {0, 5, 0, 0, 0, 0, 0, 6, 6, 6, 6, 6, 11, 16, 5, 48, 9, 0};
        for (int i = 0; i < texts.length; i++) due("\"" + texts[i] + "\"", tell(x, texts[i]), -2000 - places[i]);
        due("kind 1 is ahead of kind 2", tell(x, "d00;q"), -1004);
        for (int what = 0; what <= 7; what++) due("nothing has come", x.count(what), 0);
        for (int what = 11; what <= 16; what++) due("nothing is counted", x.count(what), 0);
        due("HAS 99", tell(x, "g200;pc000;i060;i039;"), 4);
        due("who is there already", tell(x, "u060;pc000;u102;"), 3);
        due("one that is no more than told", tell(x, "u200;"), -2000);
        due("DUE stays", x.person(0, 3), 60);
    }

    private static void person() {
        promise = 4;
        GritIsIssued x = told("g999;pc503;pm410;ph904;pt905;pd306;pg707;pt008;i003;i120;i212;");
        int[] needs = {6, 9, 20, 5, 18, 1, 0};
        int[] has = {3, 20, 12, 0, 0, 0, 0};
        int[] figure = {5, 4, 9, 9, 3, 7, 0};
        int[] dues = {3, 10, 4, 5, 6, 7, 8};
        int[] lacks = {3, 0, 8, 5, 18, 1, 0};
        int[] kinds = {0, 1, 2, 3, 4, 5, 3};
        for (int p = 0; p < needs.length; p++) {
            due("KIND of " + p, x.person(p, 0), kinds[p]);
            due("FIGURE of " + p, x.person(p, 1), figure[p]);
            due("HAS of " + p, x.person(p, 2), has[p]);
            due("DUE of " + p, x.person(p, 3), dues[p]);
            due("THROUGH of " + p, x.person(p, 4), 0);
            due("SHORT of " + p, x.person(p, 5), 0);
            due("NEEDS of " + p, x.person(p, 6), needs[p]);
            due("LACKS of " + p, x.person(p, 7), lacks[p]);
        }
        x.due(0, 0);
        due("LACKS without a matter", x.person(0, 7), 0);
        due("NEEDS without a matter", x.person(0, 6), 6);
        due("person(7, 0)", x.person(7, 0), -1);
        due("person(-1, 9)", x.person(-1, 9), -1);
        due("person(0, 8)", x.person(0, 8), -2);
        due("person(0, -1)", x.person(0, -1), -2);
        due("count(11)", x.count(11), 2);
        due("count(12)", x.count(12), 2);
    }

    private static void issues() {
        promise = 5;
        GritIsIssued x = told("g200;pc503;");
        due("issues(1, -1)", x.issues(1, -1), -1);
        due("issues(-1, 0)", x.issues(-1, 0), -1);
        due("issues(0, -1)", x.issues(0, -1), -4);
        due("issues(0, 100)", x.issues(0, 100), -6);
        due("issues(0, 0)", x.issues(0, 0), 200);
        due("issues(0, 60)", x.issues(0, 60), 140);
        due("issues(0, 40)", x.issues(0, 40), -3);
        due("issues(0, 39)", x.issues(0, 39), 101);
        due("issues(0, 0)", x.issues(0, 0), 101);
        due("HAS", x.person(0, 2), 99);
        GritIsIssued y = told("g005;pc503;");
        due("issues(0, 6)", y.issues(0, 6), -3);
        due("HAS", y.person(0, 2), 0);
        due("issues(0, 5)", y.issues(0, 5), 0);
        due("count(13)", y.count(13), 1);
        due("count(13)", x.count(13), 1);
    }

    private static void returns() {
        promise = 6;
        GritIsIssued x = told("g020;pc503;pc503;i005;");
        due("returns(2)", x.returns(2), -1);
        due("returns(-1)", x.returns(-1), -1);
        due("returns(1)", x.returns(1), -3);
        due("returns(0)", x.returns(0), 20);
        due("HAS", x.person(0, 2), 0);
        due("returns(0)", x.returns(0), -3);
        due("WORN", x.count(3), 0);
        GritIsIssued y = told("g050;pc000;i050;g990;");
        due("STORE 999 at most", y.returns(0), 999);
        due("what is above is WORN", y.count(3), 41);
        due("HAS", y.person(0, 2), 0);
        tell(y, "i009;");
        due("just 999", y.returns(0), 999);
        due("WORN", y.count(3), 41);
    }

    private static void dueOf() {
        promise = 7;
        GritIsIssued x = told("pc503;");
        due("due(1, -1)", x.due(1, -1), -1);
        due("due(0, -1)", x.due(0, -1), -4);
        due("due(0, 61)", x.due(0, 61), -6);
        due("due(0, 60)", x.due(0, 60), 3);
        due("due(0, 0)", x.due(0, 0), 60);
        due("due(0, 1)", x.due(0, 1), 0);
        due("DUE", x.person(0, 3), 1);
    }

    private static void fills() {
        promise = 8;
        GritIsIssued x = told("g900;");
        due("fills(-1)", x.fills(-1), -4);
        due("fills(100)", x.fills(100), -6);
        due("fills(0)", x.fills(0), 900);
        due("fills(99)", x.fills(99), 999);
        due("fills(1)", x.fills(1), -6);
        due("fills(-1)", x.fills(-1), -4);
        due("fills(0)", x.fills(0), 999);
        due("count(16)", x.count(16), 2);
        due("count(14)", x.count(14), 2);
    }

    private static void turn() {
        promise = 9;
        GritIsIssued x = told("pg703;");
        due("turn(1, 6, -1)", x.turn(1, 6, -1), -1);
        due("turn(0, 6, -1)", x.turn(0, 6, -1), -2);
        due("turn(0, -1, 10)", x.turn(0, -1, 10), -2);
        due("turn(0, 0, -1)", x.turn(0, 0, -1), -4);
        due("turn(0, 0, 10)", x.turn(0, 0, 10), -6);
        due("turn(0, 2, 9)", x.turn(0, 2, 9), 57);
        due("turn(0, 0, 0)", x.turn(0, 0, 0), 29);
        due("turn(0, 5, 3)", x.turn(0, 5, 3), 0);
        due("KIND", x.person(0, 0), 5);
        due("FIGURE", x.person(0, 1), 3);
        due("DUE stays", x.person(0, 3), 3);
    }

    private static void days() {
        promise = 10;
        GritIsIssued x = told("g099;pc001;pm001;pm000;i002;i115;");
        due("days(0)", x.days(0), -4);
        due("days(-1)", x.days(-1), -4);
        due("days(61)", x.days(61), -6);
        due("days(1)", x.days(1), 2);
        due("DAY", x.count(1), 1);
        due("days(7)", x.days(7), 6);
        due("HAS of 0", x.person(0, 2), 2);
        due("DUE of 0", x.person(0, 3), 7);
        due("HAS of 1", x.person(1, 2), 3);
        due("SHORT of 1", x.person(1, 5), 2);
        due("SHORT of 0", x.person(0, 5), 0);
        due("WORN", x.count(3), 12);
        due("one without a matter", x.person(2, 5), 0);
        for (int i = 0; i < 16; i++) x.days(60);
        due("DAY", x.count(1), 968);
        due("days(32)", x.days(32), -6);
        due("DAYS 974, 981, 988, 995", x.days(31), 4);
        due("DAY", x.count(1), 999);
        due("days(1)", x.days(1), -6);
        due("days(0)", x.days(0), -4);
    }

    private static void dayOfEachKind() {
        promise = 10;
        // KIND and FIGURE, HAS ahead, HAS behind the DAY, DUE then: once he gets through, once he is SHORT
        String[] who = {"c5", "m4", "h9", "t9", "d3", "g7", "t0"};
        int[] needs = {6, 9, 20, 5, 18, 1, 0};
        int[] wears = {3, 4, 20, 1, 6, 0, 0};
        int[] next = {7, 1, 30, 7, 0, 8, 7};
        for (int i = 0; i < who.length; i++) {
            String grains = needs[i] > 9 ? "" + needs[i] : "0" + needs[i];
            GritIsIssued x = told("g099;p" + who[i] + "01;i0" + grains + ";");
            due(who[i] + " gets through", x.days(1), 1);
            due(who[i] + " THROUGH", x.person(0, 4), 1);
            due(who[i] + " SHORT", x.person(0, 5), 0);
            due(who[i] + " HAS", x.person(0, 2), needs[i] - wears[i]);
            due(who[i] + " DUE", x.person(0, 3), next[i]);
            due(who[i] + " WORN", x.count(3), wears[i]);
            if (needs[i] == 0) continue;
            GritIsIssued y = told("g099;p" + who[i] + "01;i0" + grains + ";r0;");
            y.issues(0, needs[i] - 1);
            due(who[i] + " is SHORT", y.days(1), 0);
            due(who[i] + " THROUGH", y.person(0, 4), 0);
            due(who[i] + " SHORT", y.person(0, 5), 1);
            due(who[i] + " HAS", y.person(0, 2), needs[i] - 1);
            due(who[i] + " DUE", y.person(0, 3), next[i]);
            due(who[i] + " WORN", y.count(3), 0);
        }
        GritIsIssued typist = told("g001;pt001;i001;");
        due("a TYPIST without NEEDS WEARS what he HAS", typist.days(1), 1);
        due("HAS", typist.person(0, 2), 0);
        due("WORN", typist.count(3), 1);
    }

    /** SHORT and WORN at their ends; numbers in thought too. */
    private static void endsOfNumbers() {
        promise = 10;
        GritIsIssued x = told("pm001;");
        for (int i = 0; i < 16; i++) x.days(60);
        x.days(35);
        due("SHORT", x.person(0, 5), 995);
        promise = 11;
        due("SHORT 999 at most", x.personThen(0, 9, 3), 999);
        due("SHORT 999", x.personThen(0, 4, 3), 999);
        due("SHORT more", x.personThen(0, 1, 4), 1);
        promise = 12;
        due("all SHORT", x.allThen(99, 1), 999);
        x.days(4);
        promise = 11;
        due("SHORT more", x.personThen(0, 1, 4), 0);
        promise = 13;
        due("who is SHORT first", x.first(0), 0);
        due("when, from now", x.first(1), 1);
        promise = 6;
        GritIsIssued worn = told("g999;pc000;pm102;");
        for (int i = 1; i <= 100; i++) {
            worn.issues(0, 99);
            worn.fills(99);
            worn.returns(0);
        }
        due("WORN", worn.count(3), 9900);
        worn.issues(1, 50);
        worn.fills(50);
        worn.issues(0, 98);
        worn.fills(98);
        worn.returns(0);
        due("WORN", worn.count(3), 9998);
        promise = 12;
        due("WORN in mind", worn.allThen(1, 2), 9998);
        due("WORN 9999 at most in mind", worn.allThen(2, 2), 9999);
        due("WORN 9999 at most in mind", worn.allThen(3, 2), 9999);
        promise = 6;
        due("STORE", worn.returns(1), 999);
        due("WORN 9999 at most", worn.count(3), 9999);
    }

    /** Person 0, a MOTHER of FIGURE 0 (NEEDS 5, WEARS 2), got through on each DAY; the STORE has none. */
    private static GritIsIssued mother(String others, int days) {
        GritIsIssued x = told("pm001;" + others + "g099;i099;");
        for (int left = days; left > 0; left -= 48) {
            x.days(Math.min(48, left));
            if (left <= 48) continue;
            x.fills(96);
            x.issues(0, 96);
        }
        return x;
    }

    /** THROUGH stands still at 999 in thought too; the matters themselves go on. */
    private static void greatestThrough() {
        GritIsIssued x = mother("pm001;", 998);
        promise = 30;
        due("THROUGH 998: 1 above now", x.slip(0, 2, 2, 1, 0), 1);
        due("THROUGH 998: not 2 above", x.slip(0, 2, 2, 2, 0), 0);
        promise = 36;
        // z 0 draws 23 and 27: 0 gets through on 10 DAYS, 1 on 12; he is SHORT 998 now
        due("THROUGH more", x.lots(1, 0, 0), 1 + 12);
        due("SHORT more", x.lots(1, 0, 1), 10 + 1);
        promise = 19;
        // 0 HAS 23, with which he would get through on 10 DAYS
        due("THROUGH 998: 1 more at most", x.best(30, 0), 1);
        due("none has a use of the STORE", x.best(30, 1), 0);
        x.fills(5);
        due("of 0 and of 1 once", x.best(30, 0), 2);
        due("1 alone lacks something", x.best(30, 1), 2);
        x.returns(0);
        due("THROUGH 998: each once", x.best(1, 0), 2);
        due("both", x.best(1, 1), 3);
        promise = 24;
        x.issues(0, 4);
        due("THROUGH 998: a grain does it", x.grain(1), 0);
        x.issues(0, 19);
        x.days(1);
        due("THROUGH 999: none more", x.grain(30), -9);
        promise = 14;
        due("matters go on: 21, 19, .. 5", x.lasts(0), 9);
        promise = 19;
        due("THROUGH 999: 1 alone", x.best(30, 0), 1);
        due("THROUGH 999: 1 alone", x.best(30, 1), 2);
        x.returns(0);
        due("0's name does nothing", x.best(30, 1), 2);
        due("0's name does nothing", x.best(30, 0), 1);
        promise = 24;
        x.issues(0, 4);
        due("THROUGH 999: none more", x.grain(1), -9);
        x.issues(1, 4);
        due("only 1 is more", x.grain(1), 1);
    }

    private static void greatestThroughOfTwo() {
        GritIsIssued x = mother("pm001;", 998);
        x.returns(0);
        promise = 29;
        due("THROUGH 998: both", x.two(0, 1, 1), 11);
        promise = 22;
        x.issues(1, 5);
        x.due(1, 0);
        due("THROUGH 998: once more", x.borrow(0, 30), 1);
        x.returns(1);
        x.due(1, 1);
        x.issues(0, 23);
        x.days(1);
        promise = 29;
        x.returns(0);
        due("THROUGH 999: the other alone", x.two(0, 1, 1), 1);
        due("THROUGH 999: the first alone", x.two(1, 0, 1), 10);
        x.due(1, 0);
        due("neither", x.two(0, 1, 1), 0);
        due("neither", x.two(1, 0, 30), 0);
        promise = 22;
        x.issues(1, 5);
        due("THROUGH 999: none more", x.borrow(0, 30), -9);
        x.returns(1);
        x.issues(0, 5);
        x.due(1, 1);
        due("he who is THROUGH 999 loses nothing", x.borrow(1, 1), 0);
    }

    /** SHORT stands still at 999 in thought too; whether one is SHORT is asked of the matters. */
    private static void greatestShort() {
        GritIsIssued x = told("pc000;pm001;");
        for (int i = 0; i < 16; i++) x.days(60);
        x.days(38);
        x.fills(99);
        x.issues(1, 5);
        promise = 23;
        due("SHORT 998: on the next DAY", x.sweep(1, 1), 1);
        due("SHORT 998: on the DAY behind that anyhow", x.sweep(30, 1), 0);
        x.returns(1);
        x.days(1);
        x.issues(0, 1);
        x.issues(1, 5);
        x.due(0, 1);
        due("SHORT 999: 0 would be 1 more, 1 none", x.sweep(1, 0), 1);
        due("none more", x.sweep(1, 1), 0);
        due("none more in 30 DAYS", x.sweep(30, 1), 0);
        x.returns(1);
        due("0 alone HAS any", x.sweep(1, 1), 1);
        promise = 17;
        due("SHORT all the same", x.enough(1, 1), 5);
        due("SHORT all the same", x.enough(1, 3), 9);
        promise = 14;
        x.issues(1, 7);
        due("till he is SHORT all the same", x.lasts(1), 2);
        promise = 13;
        due("who is SHORT all the same", x.first(0), 1);
        due("when", x.first(1), 3);
    }

    private static void personThen() {
        promise = 11;
        GritIsIssued x = told("g099;pc001;i002;pm001;");
        due("personThen(2, -1, 9)", x.personThen(2, -1, 9), -1);
        due("personThen(0, -1, 9)", x.personThen(0, -1, 9), -4);
        due("personThen(0, 100, 9)", x.personThen(0, 100, 9), -6);
        due("personThen(0, 99, 5)", x.personThen(0, 99, 5), -2);
        due("personThen(0, 0, -1)", x.personThen(0, 0, -1), -2);
        // FIGURE 0: NEEDS 1, WEARS 0
        due("HAS", x.personThen(0, 99, 0), 2);
        due("DUE", x.personThen(0, 99, 1), 7);
        due("THROUGH", x.personThen(0, 99, 2), 15);
        due("SHORT", x.personThen(0, 99, 3), 0);
        due("SHORT more", x.personThen(0, 99, 4), 0);
        due("THROUGH now", x.personThen(0, 0, 2), 0);
        due("DUE now", x.personThen(0, 0, 1), 1);
        due("SHORT", x.personThen(1, 40, 3), 40);
        due("SHORT more", x.personThen(1, 1, 4), 1);
        x.days(3);
        due("SHORT more than now", x.personThen(1, 0, 4), 0);
        due("SHORT then", x.personThen(1, 2, 3), 5);
        due("DAY is not in mind", x.count(1), 3);
    }

    private static void allThen() {
        promise = 12;
        GritIsIssued x = told("g099;pc501;i020;pm001;ph260;");
        due("allThen(-1, 9)", x.allThen(-1, 9), -4);
        due("allThen(100, 9)", x.allThen(100, 9), -6);
        due("allThen(0, 3)", x.allThen(0, 3), -2);
        due("allThen(0, -1)", x.allThen(0, -1), -2);
        x.days(1);
        due("THROUGH now", x.allThen(0, 0), 1);
        due("SHORT now", x.allThen(0, 1), 1);
        due("WORN now", x.allThen(0, 2), 3);
        // DAYS 8, 15, 22, 29: 17, 14, 11, 8, of which 3 are gone each time; then 5 is too little
        due("THROUGH", x.allThen(58, 0), 5);
        due("SHORT", x.allThen(58, 1), 1 + 58 + 4);
        due("SHORT", x.allThen(59, 1), 1 + 59 + 4 + 1);
        due("WORN", x.allThen(99, 2), 15);
    }

    private static void first() {
        promise = 13;
        GritIsIssued x = new GritIsIssued();
        due("first(2)", x.first(2), -2);
        due("first(-1)", x.first(-1), -2);
        due("first(0)", x.first(0), -9);
        due("first(1)", x.first(1), -9);
        tell(x, "g099;pg060;i001;pc005;i101;pc505;pc404;i205;");
        // 1 lasts for ever; 2 NEEDS 6 and HAS 5 on DAY 5; 3 NEEDS 5 and HAS none on DAY 4
        due("first(0)", x.first(0), 3);
        due("first(1)", x.first(1), 4);
        x.due(3, 5);
        due("of several the least", x.first(0), 2);
        due("when", x.first(1), 5);
        x.days(4);
        due("when, from now", x.first(1), 1);
        GritIsIssued far = told("g099;pc560;i009;");
        // through on DAY 60 and 67 (9, 6), SHORT on 74
        due("first(0)", far.first(0), 0);
        due("first(1)", far.first(1), 74);
        far.issues(0, 13);
        // 22, 19, 16, 13, 10, 7, 4: SHORT on 60 + 42 = 102
        due("first(0)", far.first(0), -9);
        far.days(3);
        due("within 99 DAYS", far.first(1), 99);
    }

    private static void lasts() {
        promise = 14;
        GritIsIssued x = told("g099;pc501;i012;pm001;i109;pg001;i201;pc500;");
        due("lasts(4)", x.lasts(4), -1);
        due("lasts(-1)", x.lasts(-1), -1);
        // 12, 9, 6
        due("lasts(0)", x.lasts(0), 3);
        // 9, 7, 5
        due("lasts(1)", x.lasts(1), 3);
        // DAYS 1, 9, .. 97
        due("lasts(2)", x.lasts(2), 13);
        due("lasts(3)", x.lasts(3), 0);
        x.days(1);
        due("from now", x.lasts(0), 2);
        x.returns(0);
        due("lasts(0)", x.lasts(0), 0);
        x.due(0, 60);
        x.issues(0, 6);
        due("one, then SHORT", x.lasts(0), 1);
        GritIsIssued girl = told("g009;pg003;i001;");
        // DAYS 3, 11, .. 99
        due("DAY 99 is within", girl.lasts(0), 13);
        girl.due(0, 4);
        due("DAY 100 is not", girl.lasts(0), 12);
    }

    private static void lacks() {
        promise = 15;
        GritIsIssued x = new GritIsIssued();
        due("lacks()", x.lacks(), 0);
        tell(x, "g099;pc501;i004;pd900;pm960;pg001;i305;");
        due("lacks()", x.lacks(), 2 + 14);
        x.due(1, 1);
        due("lacks()", x.lacks(), 2 + 14 + 24);
    }

    private static void next() {
        promise = 16;
        GritIsIssued x = new GritIsIssued();
        due("next(2)", x.next(2), -2);
        due("next(-1)", x.next(-1), -2);
        due("next(0)", x.next(0), -9);
        tell(x, "pc000;");
        due("next(0)", x.next(0), -9);
        due("next(1)", x.next(1), -9);
        tell(x, "pc060;pc012;pc012;");
        due("next(0)", x.next(0), 2);
        due("next(1)", x.next(1), 12);
        x.due(2, 0);
        x.due(3, 0);
        due("next(0)", x.next(0), 1);
        due("next(1)", x.next(1), 60);
        x.due(0, 1);
        due("next(0)", x.next(0), 0);
        due("next(1)", x.next(1), 1);
    }

    private static void enough() {
        promise = 17;
        GritIsIssued x = told("pm101;pm901;pd900;pc507;");
        due("enough(4, 0)", x.enough(4, 0), -1);
        due("enough(0, 0)", x.enough(0, 0), -4);
        due("enough(0, 61)", x.enough(0, 61), -6);
        due("enough(0, 1)", x.enough(0, 1), 6);
        due("enough(0, 2)", x.enough(0, 2), 9);
        due("enough(0, 32)", x.enough(0, 32), 99);
        due("enough(0, 33)", x.enough(0, 33), -9);
        due("enough(1, 60)", x.enough(1, 60), -9);
        due("enough(2, 60)", x.enough(2, 60), 0);
        due("enough(3, 6)", x.enough(3, 6), 0);
        due("enough(3, 7)", x.enough(3, 7), 6);
        due("enough(3, 13)", x.enough(3, 13), 6);
        due("enough(3, 14)", x.enough(3, 14), 9);
    }

    private static void serve() {
        promise = 18;
        GritIsIssued x = new GritIsIssued();
        due("serve(3)", x.serve(3), -2);
        due("serve(-1)", x.serve(-1), -2);
        due("serve(0)", x.serve(0), 0);
        due("serve(2)", x.serve(2), 0);
        // lacks 6, 20, 5, 0 (no matter), 5, 0 (HAS it)
        tell(x, "pc501;ph901;pm001;pc500;pm001;g011;pg001;i501;");
        due("serve(0)", x.serve(0), 2);
        due("serve(1)", x.serve(1), 20);
        due("serve(2)", x.serve(2), 0);
        x.fills(1);
        due("of several the least", x.serve(1), 5);
        due("serve(2)", x.serve(2), 0);
        x.fills(5);
        due("serve(0)", x.serve(0), 3);
        due("serve(1)", x.serve(1), 21);
        due("serve(2)", x.serve(2), 0);
        x.fills(20);
        due("serve(0)", x.serve(0), 4);
        due("serve(1)", x.serve(1), 23);
        x.fills(7);
        due("serve(2)", x.serve(2), 7);
        due("nothing is issued", x.count(2), 43);
        GritIsIssued y = told("g004;pm001;");
        due("serve(0)", y.serve(0), 0);
        due("serve(1)", y.serve(1), 0);
        due("serve(2)", y.serve(2), 4);
        y.fills(1);
        due("just enough", y.serve(1), 1);
        due("how many", y.serve(0), 1);
        due("left", y.serve(2), 0);
    }

    private static void best() {
        promise = 19;
        GritIsIssued x = new GritIsIssued();
        due("best(0, 9)", x.best(0, 9), -4);
        due("best(31, 9)", x.best(31, 9), -6);
        due("best(30, 2)", x.best(30, 2), -2);
        due("best(30, -1)", x.best(30, -1), -2);
        due("best(1, 0)", x.best(1, 0), 0);
        due("best(1, 1)", x.best(1, 1), 0);
        // 0: 10 grains once in 30 DAYS; 1: 1 grain, 5 times in 30; 2: 5 grains, once (WEARS 2); 3 gets through without
        tell(x, "g010;ph401;pc001;pm001;pc001;g001;i301;");
        due("best(1, 0)", x.best(1, 0), 3);
        due("best(1, 1)", x.best(1, 1), 6);
        due("best(30, 0)", x.best(30, 0), 5 + 5 + 1);
        due("best(30, 1)", x.best(30, 1), 6);
        x.fills(1);
        due("all can be had of 11", x.best(1, 0), 3);
        due("of several the least", x.best(1, 1), 3);
        x.fills(5);
        due("all", x.best(1, 1), 7);
        due("how many", x.best(1, 0), 4);
        x.due(2, 2);
        due("only what is DUE", x.best(1, 1), 3);
        due("nothing is issued", x.count(2), 16);
    }

    private static void run() {
        promise = 20;
        GritIsIssued x = new GritIsIssued();
        due("run(2)", x.run(2), -2);
        due("run(-1)", x.run(-1), -2);
        due("run(0)", x.run(0), -9);
        // 6 first (ahead of DAY 2), then 3 each 7 DAYS
        tell(x, "g012;pc502;");
        due("run(0)", x.run(0), 1 + 21);
        due("run(1)", x.run(1), 0);
        tell(x, "pc002;pg002;");
        // 8 ahead of DAY 2, 3 ahead of 9, then 1 is left
        due("run(0)", x.run(0), 1 + 14);
        due("run(1)", x.run(1), 0);
        tell(x, "ph916;g001;");
        // ahead of DAY 16: 2 are left, 0 lacks 3
        due("whom first, by numbers", x.run(1), 0);
        x.fills(1);
        due("then the next", x.run(1), 3);
        due("run(0)", x.run(0), 15);
        GritIsIssued far = told("pc060;");
        due("behind 59", far.run(0), 59);
        far.due(0, 0);
        due("none", far.run(0), -9);
        due("none", far.run(1), -9);
        GritIsIssued sixty = told("ph131;i000;g004;");
        // ahead of DAY 31 all 4; ahead of DAY 61 none is left
        due("behind 60", sixty.run(0), 60);
        due("whom", sixty.run(1), 0);
        GritIsIssued later = told("ph132;g004;");
        due("behind 61 is beyond", later.run(0), -9);
    }

    private static void stock() {
        promise = 21;
        GritIsIssued x = new GritIsIssued();
        due("stock(0)", x.stock(0), -4);
        due("stock(31)", x.stock(31), -6);
        due("stock(30)", x.stock(30), 0);
        tell(x, "g500;pc502;");
        due("stock(1)", x.stock(1), 0);
        due("stock(2)", x.stock(2), 6);
        due("stock(8)", x.stock(8), 6);
        due("stock(9)", x.stock(9), 9);
        due("the STORE stays", x.count(2), 500);
        // 14 first and 7 each DAY, of five: 5 * (14 + 29 * 7) = 1085; in 27 DAYS 980, in 28 1015
        GritIsIssued y = told("pm901;pm901;pm901;pm901;pm901;");
        due("stock(27)", y.stock(27), 980);
        due("stock(28)", y.stock(28), -9);
        due("stock(30)", y.stock(30), -9);
        GritIsIssued exact = told("pm901;pm901;pm901;pm901;pm901;ph601;pm027;");
        // 980 and 14 and 5
        due("999", exact.stock(27), 999);
        due("the first is refused", exact.stock(28), -9);
        exact.turn(6, 1, 1);
        due("1000", exact.stock(27), -9);
    }

    private static void borrow() {
        promise = 22;
        GritIsIssued x = told("g099;pc501;pc900;pc000;i102;i220;");
        due("borrow(3, 0)", x.borrow(3, 0), -1);
        due("borrow(0, 0)", x.borrow(0, 0), -4);
        due("borrow(0, 31)", x.borrow(0, 31), -6);
        due("of him who HAS so much", x.borrow(0, 1), 2);
        x.issues(1, 4);
        due("of several the least", x.borrow(0, 1), 1);
        x.due(1, 1);
        // 1 NEEDS 10 and HAS 6: he is SHORT anyway
        due("of one who is SHORT anyway", x.borrow(0, 1), 1);
        x.issues(1, 4);
        due("of one who is SHORT then", x.borrow(0, 1), 2);
        x.returns(2);
        due("by 1 at least", x.borrow(0, 1), -9);
        x.turn(1, 5, 0);
        due("one who NEEDS 1", x.borrow(0, 1), 1);
        x.due(0, 2);
        due("not in n DAYS", x.borrow(0, 1), -9);
        due("in n DAYS", x.borrow(0, 2), 1);
        x.due(0, 0);
        due("lacks nothing: no matter", x.borrow(0, 30), -9);
        x.due(0, 1);
        x.issues(0, 6);
        due("lacks nothing: HAS it", x.borrow(0, 30), -9);
        due("nothing is had", x.person(1, 2), 10);
        GritIsIssued y = told("g030;pc500;pc501;i010;i105;");
        due("of the first, a single one", y.borrow(1, 1), 0);
        y.due(1, 30);
        due("on the last DAY", y.borrow(1, 30), 0);
        due("behind it", y.borrow(1, 29), -9);
        GritIsIssued z = told("g030;pc501;pc501;i006;i105;");
        due("what one gains the other loses", z.borrow(1, 30), -9);
        due("both of none", told("pc501;pc501;").borrow(1, 30), -9);
    }

    private static void sweep() {
        promise = 23;
        GritIsIssued x = told("pc501;");
        due("sweep(0, 9)", x.sweep(0, 9), -4);
        due("sweep(31, 9)", x.sweep(31, 9), -6);
        due("sweep(1, 2)", x.sweep(1, 2), -2);
        due("sweep(1, -1)", x.sweep(1, -1), -2);
        due("nobody HAS any", x.sweep(1, 0), -9);
        due("nobody HAS any", x.sweep(1, 1), -9);
        tell(x, "g099;i012;pm001;i109;pg001;i201;");
        // 0: 3 matters more SHORT in 15 DAYS; 1: 3; 2: 2
        due("who", x.sweep(15, 0), 2);
        due("how many more", x.sweep(15, 1), 2);
        due("of several the least", x.sweep(1, 0), 0);
        due("how many more", x.sweep(1, 1), 1);
        // in 30 DAYS: 3, 3, 4
        due("who", x.sweep(30, 0), 0);
        due("how many more", x.sweep(30, 1), 3);
        x.due(1, 0);
        due("one without a matter", x.sweep(30, 0), 1);
        due("none more", x.sweep(30, 1), 0);
        due("nothing is handed in", x.person(1, 2), 9);
    }

    private static void grain() {
        promise = 24;
        GritIsIssued x = new GritIsIssued();
        due("grain(0)", x.grain(0), -4);
        due("grain(31)", x.grain(31), -6);
        due("grain(30)", x.grain(30), -9);
        tell(x, "g099;pc501;i004;pm001;i104;pc001;");
        due("of several the least", x.grain(1), 1);
        due("most", x.grain(30), 2);
        x.issues(0, 1);
        due("of several the least", x.grain(1), 0);
        x.due(0, 2);
        x.due(1, 2);
        x.due(2, 2);
        due("none does anything", x.grain(1), -9);
        due("STORE stays", x.count(2), 90);
        GritIsIssued y = told("g099;pm001;i099;");
        due("99 at most", y.grain(30), -9);
        GritIsIssued z = told("g099;pc501;i007;");
        due("he gets through as else", z.grain(1), -9);
        due("he gets through as else", z.grain(7), -9);
        due("once more", z.grain(8), -9);
        z.issues(0, 1);
        due("once more", z.grain(8), 0);
    }

    private static void shares() {
        promise = 25;
        GritIsIssued x = told("g047;");
        due("shares(2)", x.shares(2), -2);
        due("shares(-1)", x.shares(-1), -2);
        due("nobody", x.shares(0), 0);
        due("nobody", x.shares(1), 47);
        tell(x, "pc000;pc000;pc000;");
        due("each", x.shares(0), 15);
        due("over", x.shares(1), 2);
        GritIsIssued one = told("g047;pc000;");
        due("one alone", one.shares(0), 47);
        due("one alone", one.shares(1), 0);
    }

    private static void richest() {
        promise = 26;
        GritIsIssued x = new GritIsIssued();
        due("nobody", x.richest(), -9);
        tell(x, "g099;pc000;pc000;pc000;");
        due("none HAS any", x.richest(), 0);
        tell(x, "i105;i205;");
        due("of several the least", x.richest(), 1);
        x.issues(2, 1);
        due("most", x.richest(), 2);
    }

    private static void trusted() {
        promise = 27;
        GritIsIssued x = told("g099;pm001;i007;pm001;");
        due("trusted(2)", x.trusted(2), INT + 1);
        due("trusted(-1)", x.trusted(-1), INT + 1);
        due("count(11)", x.count(11), 2);
        due("trusted(0)", x.trusted(0), 0);
        x.days(2);
        due("trusted(0)", x.trusted(0), 2);
        due("below 0", x.trusted(1), -2);
        x.days(1);
        due("trusted(0)", x.trusted(0), 1);
    }

    private static void worth() {
        promise = 28;
        GritIsIssued x = new GritIsIssued();
        due("nobody", x.worth(), 0);
        tell(x, "g099;pm001;i009;pm001;pm003;");
        x.days(2);
        due("worth()", x.worth(), 0);
        x.days(1);
        due("worth()", x.worth(), 3 - 3 - 1);
    }

    private static void two() {
        promise = 29;
        GritIsIssued x = told("g010;pc501;pc501;");
        due("two(0, 2, 0)", x.two(0, 2, 0), -1);
        due("two(2, 0, 0)", x.two(2, 0, 0), -1);
        due("two(1, 1, 0)", x.two(1, 1, 0), -1);
        due("two(0, 1, 0)", x.two(0, 1, 0), -4);
        due("two(0, 1, 31)", x.two(0, 1, 31), -6);
        // 10 do for one: the first ahead; the other's name does nothing then
        due("the first ahead", x.two(0, 1, 1), 10);
        due("the first ahead", x.two(1, 0, 1), 10);
        x.fills(2);
        due("both", x.two(0, 1, 1), 11);
        x.due(0, 0);
        due("one without a matter need not sign", x.two(0, 1, 1), 1);
        due("the first's and the other's", x.two(1, 0, 1), 10);
        x.due(0, 2);
        due("not in n DAYS", x.two(0, 1, 1), 1);
        GritIsIssued y = told("g099;ph401;ph901;");
        // 10 grains cost 1 and bring 1; 20 cost 2 and bring 1
        due("no more by it", y.two(0, 1, 1), 0);
        y.turn(0, 1, 4);
        due("9 cost none", y.two(0, 1, 1), 10);
        y.turn(0, 1, 9);
        due("14 cost 1", y.two(0, 1, 1), 0);
        due("nothing is issued", y.count(2), 99);
        GritIsIssued just = told("g006;pc501;pc501;");
        due("just for the first", just.two(0, 1, 1), 10);
        just.due(1, 0);
        due("just for the first", just.two(1, 0, 1), 1);
        GritIsIssued leaves = told("g020;ph901;pc501;");
        due("the first leaves it", leaves.two(0, 1, 1), 1);
    }

    private static void slip() {
        promise = 30;
        GritIsIssued x = told("g099;pc002;i001;pm001;i107;pc000;");
        due("slip(3, -1, ..)", x.slip(3, -1, 0, -1, 5), LONG + 1);
        due("slip, n below", x.slip(0, -1, 21, 10, 5), LONG + 4);
        due("slip, t below", x.slip(0, 8, 1, 10, 5), LONG + 4);
        due("slip, v below", x.slip(0, 8, 21, -1, 5), LONG + 4);
        due("slip, n above", x.slip(0, 8, 2, 0, 5), LONG + 6);
        due("slip, t above", x.slip(0, 7, 21, 0, 5), LONG + 6);
        due("slip, v above", x.slip(0, 7, 20, 10, 5), LONG + 6);
        due("slip, part", x.slip(0, 7, 20, 9, 2), LONG + 2);
        due("slip, part", x.slip(0, 7, 20, 9, -1), LONG + 2);
        due("count(14)", x.count(14), 3);
        // he gets through on DAY 2 if he loses on neither
        due("above", x.slip(0, 2, 3, 1, 0), 4);
        due("below", x.slip(0, 2, 3, 1, 1), 9);
        due("behind 1 DAY", x.slip(0, 1, 3, 1, 0), 0);
        due("0 by 1", x.slip(0, 1, 3, 1, 1), 1);
        due("v 0", x.slip(0, 7, 20, 0, 0), 1);
        due("v 0", x.slip(0, 7, 20, 0, 1), 1);
        due("n 0", x.slip(0, 0, 2, 1, 0), 0);
        due("7 DAYS", x.slip(0, 7, 20, 1, 0), 361);
        due("7 DAYS", x.slip(0, 7, 20, 1, 1), 400);
        // 1 HAS 7, NEEDS 5, WEARS 2: both of 2 only if he never loses; one of 2 always
        due("twice", x.slip(1, 2, 2, 2, 0), 1);
        due("twice", x.slip(1, 2, 2, 2, 1), 4);
        due("once", x.slip(1, 2, 2, 1, 1), 1);
        due("once", x.slip(1, 2, 2, 1, 0), 1);
        x.days(2);
        due("above now", x.slip(1, 1, 2, 1, 0), 0);
        due("above now", x.slip(1, 1, 2, 0, 0), 1);
        due("no matter", x.slip(2, 7, 2, 1, 0), 0);
        due("HAS stays", x.person(0, 2), 1);
        GritIsIssued none = told("pt001;");
        due("0 at least", none.slip(0, 1, 2, 1, 0), 1);
        due("0 at least", none.slip(0, 1, 2, 1, 1), 1);
    }

    private static void mean() {
        promise = 31;
        GritIsIssued x = new GritIsIssued();
        due("mean(2)", x.mean(2), LONG + 2);
        due("mean(-1)", x.mean(-1), LONG + 2);
        due("nobody", x.mean(0), 0);
        due("nobody", x.mean(1), 1);
        tell(x, "g099;pc000;pc000;pc000;pc000;");
        due("none", x.mean(0), 0);
        due("none", x.mean(1), 1);
        tell(x, "i005;i101;");
        due("3 by 2", x.mean(0), 3);
        due("3 by 2", x.mean(1), 2);
        tell(x, "i302;");
        due("2 by 1", x.mean(0), 2);
        due("2 by 1", x.mean(1), 1);
        GritIsIssued one = told("g099;pc000;i005;");
        due("of one", one.mean(0), 5);
        due("of one", one.mean(1), 1);
    }

    private static void whatIs() {
        promise = 32;
        GritIsIssued x = told("g099;pc501;i020;");
        due("whatIs(1, 2)", x.whatIs(1, 2), -1);
        due("whatIs(0, 2)", x.whatIs(0, 2), -2);
        due("whatIs(0, -1)", x.whatIs(0, -1), -2);
        due("no ROW", x.whatIs(0, 0), 63);
        due("no ROW", x.whatIs(0, 1), 1023);
        x.row(20);
        due("HAS now", x.whatIs(0, 0), 63);
        due("HAS now", x.whatIs(0, 1), 1023);
        x.row(17);
        // FIGURE 5 wears: c 3, m 5, h 12, t 1, d 6 (of 20 needed), g 0
        due("KINDS", x.whatIs(0, 0), 1);
        due("FIGURES 5 and 6", x.whatIs(0, 1), 96);
        for (int i = 0; i < 6; i++) x.row(17);
        due("KINDS", x.whatIs(0, 0), 1);
        x.row(14);
        due("KINDS", x.whatIs(0, 0), 1);
        due("FIGURES", x.whatIs(0, 1), 96);
        due("the ROW stays", x.count(6), 9);
        x.clear();
        x.row(20);
        x.row(15);
        due("a MOTHER", x.whatIs(0, 0), 2);
        x.row(10);
        due("a MOTHER again", x.whatIs(0, 0), 2);
        x.row(10);
        due("a MOTHER who is SHORT HAS all still", x.whatIs(0, 0), 0);
        x.clear();
        x.row(20);
        x.row(14);
        due("DIVORCED", x.whatIs(0, 0), 16);
        due("not as a CLERK", x.whatIs(0, 1), 0);
        x.clear();
        x.row(21);
        due("not now", x.whatIs(0, 0), 0);
        due("what he is stays", x.person(0, 0), 0);
    }

    private static void row() {
        promise = 33;
        GritIsIssued x = new GritIsIssued();
        due("row(-1)", x.row(-1), -4);
        due("row(100)", x.row(100), -6);
        due("row(0)", x.row(0), 1);
        due("row(99)", x.row(99), 2);
        for (int i = 3; i <= 16; i++) due("row", x.row(i), i);
        due("row at 16", x.row(1), -6);
        due("row(-1) at 16", x.row(-1), -4);
        due("count(6)", x.count(6), 16);
        due("count(16)", x.count(16), 2);
    }

    private static void judge() {
        promise = 34;
        GritIsIssued x = told("pc005;pc000;pc060;");
        due("no ROW", x.judge(), -9);
        x.row(5);
        x.row(0);
        due("all so", x.judge(), -9);
        due("the ROW has none", x.count(6), 0);
        x.row(5);
        x.row(1);
        x.row(61);
        due("the first that is not so", x.judge(), 1);
        due("the ROW has none", x.count(6), 0);
        x.row(5);
        x.row(0);
        x.row(60);
        x.row(0);
        due("nobody there", x.judge(), 3);
        x.row(4);
        due("the first", x.judge(), 0);
        x.row(4);
        x.row(1);
        due("the first of two", x.judge(), 0);
    }

    private static void clear() {
        promise = 35;
        GritIsIssued x = new GritIsIssued();
        due("clear()", x.clear(), 0);
        x.row(3);
        x.row(4);
        due("clear()", x.clear(), 2);
        due("clear()", x.clear(), 0);
        due("row(1)", x.row(1), 1);
    }

    private static void lots() {
        promise = 36;
        GritIsIssued x = new GritIsIssued();
        due("lots(0, 0, 9)", x.lots(0, 0, 9), -4);
        due("lots(21, 0, 9)", x.lots(21, 0, 9), -6);
        due("lots(20, 0, 2)", x.lots(20, 0, 2), -2);
        due("lots(20, 0, -1)", x.lots(20, 0, -1), -2);
        due("nobody", x.lots(20, 5, 0), 0);
        tell(x, "pg001;");
        // z 0: 1013904223 by 256 is 3960563, modulo 30 23: through on DAYS 1, 9, 17
        due("one spring", x.lots(1, 0, 0), 3);
        due("one spring", x.lots(1, 0, 1), 0);
        // z 1: 1015568748 by 256 is 3967065, modulo 30 is 15: a CLERK who NEEDS 10 and WEARS 5: 15, 10, then 5
        x.turn(0, 0, 9);
        due("one spring", x.lots(1, 1, 0), 2);
        due("one spring", x.lots(1, 1, 1), 1);
        // z 0 goes on: 1013904223 * 1664525 + 1013904223 is 1196435762 in an int; by 256 4673577, modulo 30 is 27
        due("two springs", x.lots(2, 0, 0), 3 + 3);
        due("HAS stays", x.person(0, 2), 0);
        x.days(1);
        due("more than now", x.lots(1, 1, 1), 0);
        due("more than now", x.lots(1, 1, 0), 2);
        due("a seed below 0", x.lots(3, Integer.MIN_VALUE, 0) + x.lots(3, Integer.MIN_VALUE, 1), 6);
        GritIsIssued girl = told("g001;pg001;i001;d01;u020;");
        due("the 20th DAY", girl.lots(1, 0, 0), 1);
        girl.due(0, 21);
        due("the 21st", girl.lots(1, 0, 0), 0);
    }

    private static void imageAndOn() {
        promise = 38;
        GritIsIssued x = told("g099;pc501;i020;");
        due("on()", x.on(), -3);
        due("count(13)", x.count(13), 1);
        x.days(1);
        promise = 37;
        due("image()", x.image(), 1);
        x.turn(0, 2, 2);
        x.due(0, 0);
        tell(x, "pm101;g100;r0;d05;");
        x.row(7);
        x.letter('g');
        x.person(9, 9);
        promise = 38;
        due("on()", x.on(), 1);
        due("PEOPLE", x.count(0), 1);
        due("DAY", x.count(1), 1);
        due("STORE", x.count(2), 79);
        due("WORN", x.count(3), 3);
        due("KIND", x.person(0, 0), 0);
        due("FIGURE", x.person(0, 1), 5);
        due("HAS", x.person(0, 2), 17);
        due("DUE", x.person(0, 3), 7);
        due("THROUGH", x.person(0, 4), 1);
        due("SHORT", x.person(0, 5), 0);
        due("the ROW stays", x.count(6), 1);
        due("letters stay", x.count(7), 1);
        due("REFUSALS stay", x.count(11), 1);
        x.days(20);
        due("once more", x.on(), 1);
        due("HAS", x.person(0, 2), 17);
        tell(x, "01;");
        promise = 37;
        x.days(9);
        due("another image", x.image(), 10);
        x.days(1);
        due("from the last", x.on(), 10);
        GritIsIssued early = new GritIsIssued();
        due("of nobody", early.image(), 0);
        tell(early, "g099;pm101;d03;");
        due("on()", early.on(), 0);
        due("PEOPLE", early.count(0), 0);
        tell(early, "pc000;");
        due("one who comes then is new", early.person(0, 5), 0);
        GritIsIssued gone = told("g099;");
        gone.image();
        tell(gone, "pm104;i030;d01;");
        gone.on();
        due("nobody HAS", gone.count(4), 0);
        due("nobody's matter", gone.count(5), 0);
        due("nobody lacks", gone.lacks(), 0);
        due("nobody is next", gone.next(0), -9);
        due("nobody is SHORT", gone.first(0), -9);
        due("nobody gets through", gone.allThen(9, 0), 0);
        due("nobody WEARS", gone.allThen(9, 2), 0);
        due("nobody sweeps", gone.sweep(9, 0), -9);
        due("nobody is richest", gone.richest(), -9);
        due("nobody is best", gone.best(30, 0), 0);
        due("nobody runs", gone.run(0), -9);
        due("nobody's grain", gone.grain(9), -9);
        due("nobody's springs", gone.lots(1, 1, 0), 0);
    }

    private static void count() {
        promise = 39;
        GritIsIssued x = told("g099;pc501;i020;pc900;i105;pm101;d02;");
        due("PEOPLE", x.count(0), 3);
        due("DAY", x.count(1), 2);
        due("STORE", x.count(2), 74);
        due("WORN", x.count(3), 3);
        due("all HAS", x.count(4), 22);
        due("a matter", x.count(5), 2);
        x.row(4);
        x.row(4);
        due("ROW", x.count(6), 2);
        x.letter('g');
        due("letters", x.count(7), 1);
        int[] others = {-1, 8, 9, 10, 17, Integer.MIN_VALUE, Integer.MAX_VALUE};
        for (int what : others) due("count(" + what + ")", x.count(what), -9);
        x.lasts(5);
        x.mean(7);
        x.trusted(-5);
        x.returns(2);
        x.fills(-1);
        x.fills(-1);
        x.fills(100);
        int[] want = {2, 1, 1, 2, 0, 1};
        for (int i = 0; i < want.length; i++) due("REFUSALS", x.count(11 + i), want[i]);
    }
}
