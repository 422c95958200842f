/** The second part of the document's Terms: each sentence that names a boundary has a test of its own, with that sentence at its head. */
public final class ThoughtBoundaryTest {
    private static int right = 0;
    private static int wrong = 0;
    private static String sentence = "";

    private static void sentence(String words) {
        sentence = words;
    }

    private static void due(String call, long got, long want) {
        if (got == want) {
            right++;
        } else {
            wrong++;
            System.out.println("\"" + sentence + "\": " + call + " answered " + got + ", due is " + want);
        }
    }

    private static int tell(GritIsIssued x, String letters) {
        for (int i = 0; i < letters.length(); i++) x.letter(letters.charAt(i));
        return x.counter();
    }

    private static GritIsIssued told(String letters) {
        GritIsIssued x = new GritIsIssued();
        int statements = tell(x, letters);
        if (statements < 0) due("told " + letters, statements, 1);
        return x;
    }

    private static void daysGoBy(GritIsIssued x, int days) {
        for (int left = days; left > 0; left -= 60) x.days(Math.min(60, left));
    }

    public static void main(String[] args) {
        inThoughtDayMayPass();
        daysOn();
        shortMoreThanNow();
        firstWithin();
        lasts();
        lacks();
        next();
        enough();
        serveMost();
        serveJust();
        bestSets();
        bestDays();
        runDays();
        runAllOrNothing();
        stock();
        borrowHasSoMuch();
        borrowMore();
        sweepNobody();
        sweepFewest();
        grainAtMost();
        grainMost();
        shares();
        richest();
        trust();
        worth();
        twoSign();
        twoCut();
        twoFirstPair();
        slipOdds();
        slipNoneBelow();
        slipAbove();
        mean();
        whatOneIs();
        rowOfNumbers();
        judged();
        lotsSprings();
        draw();
        System.out.println(right + " passed, " + wrong + " failed");
        if (wrong != 0) System.exit(1);
    }

    // ---- in mind

    private static void inThoughtDayMayPass() {
        sentence("(In thought DAY may pass 999.)");
        // a CLERK who NEEDS 6 and WEARS 3 and HAS 20, two MOTHERS who NEED 5 and WEAR 2, who HAVE 9 and none; the STORE has 70
        GritIsIssued x = told("g099;pc500;i020;pm000;i109;pm000;");
        daysGoBy(x, 999);
        x.due(0, 1);
        x.due(1, 1);
        // the CLERK on DAYS 1, 8, .. 29 and not on 36, .. 99; the MOTHER thrice
        due("THROUGH", x.personThen(0, 99, 2), 5);
        due("SHORT", x.personThen(0, 99, 3), 10);
        due("DUE", x.personThen(0, 99, 1), 7);
        due("HAS", x.personThen(0, 99, 0), 5);
        due("all THROUGH", x.allThen(99, 0), 8);
        due("all SHORT", x.allThen(99, 1), 10 + 96);
        due("all WORN", x.allThen(99, 2), 15 + 6);
        due("who is SHORT first", x.first(0), 1);
        due("when", x.first(1), 4);
        due("lasts", x.lasts(0), 5);
        due("enough", x.enough(1, 3), 9);
        due("stock", x.stock(5), 4);
        // 32 times 2 to the MOTHER ahead of DAYS 4 .. 35, then 1 to the CLERK and 2, then 2: 1 is left
        due("run", x.run(0), 37);
        due("whom", x.run(1), 1);
        due("sweep", x.sweep(1, 1), 1);
        due("slip", x.slip(1, 3, 2, 3, 1), 8);
        // z 0 draws 23 and 27
        due("lots", x.lots(1, 0, 0), 3 + 12);
        x.row(9);
        x.row(7);
        x.row(5);
        due("what one is", x.whatIs(1, 0), 2);
        x.due(2, 1);
        due("best", x.best(1, 0), 3);
        due("borrow", x.borrow(2, 1), 0);
        due("two", x.two(0, 2, 1), 1);
        x.issues(2, 4);
        due("grain", x.grain(1), 2);
        due("DAY stays", x.count(1), 999);
        due("DAY may not", x.days(1), -6);
    }

    private static void daysOn() {
        sentence("In mind, n DAYS on (0 .. 99)");
        GritIsIssued x = told("g099;pm001;pm001;i009;");
        x.days(2);
        due("HAS on none", x.personThen(0, 0, 0), 5);
        due("DUE on none", x.personThen(0, 0, 1), 1);
        due("THROUGH on none", x.personThen(0, 0, 2), 2);
        due("SHORT on none", x.personThen(1, 0, 3), 2);
        due("SHORT more on none", x.personThen(1, 0, 4), 0);
        due("all THROUGH on none", x.allThen(0, 0), 2);
        due("all SHORT on none", x.allThen(0, 1), 2);
        due("all WORN on none", x.allThen(0, 2), 4);
        due("HAS on one", x.personThen(0, 1, 0), 3);
        due("all THROUGH on one", x.allThen(1, 0), 3);
        due("SHORT on 98", x.personThen(1, 98, 3), 100);
        due("SHORT on 99", x.personThen(1, 99, 3), 101);
        due("all SHORT on 99", x.allThen(99, 1), 101 + 98);
        due("all WORN on 99", x.allThen(99, 2), 6);
        GritIsIssued far = told("pg060;");
        // DAYS 60, 68, .. 92, 100
        due("DUE on 59", far.personThen(0, 59, 1), 1);
        due("DUE on 60", far.personThen(0, 60, 1), 8);
        due("DUE on 99", far.personThen(0, 99, 1), 1);
        due("SHORT on 99", far.personThen(0, 99, 3), 5);
        due("none of nobody", new GritIsIssued().allThen(99, 0), 0);
    }

    private static void shortMoreThanNow() {
        sentence("whether one is SHORT more than now (1, 0)");
        GritIsIssued x = told("pm003;");
        x.days(3);
        due("SHORT once till now", x.personThen(0, 0, 4), 0);
        due("once more", x.personThen(0, 1, 4), 1);
        due("twice more", x.personThen(0, 2, 4), 1);
        due("99 times more", x.personThen(0, 99, 4), 1);
        x.due(0, 7);
        due("on DAY 6 not yet", x.personThen(0, 6, 4), 0);
        due("on DAY 7", x.personThen(0, 7, 4), 1);
    }

    private static void firstWithin() {
        sentence("FIRST: who is SHORT first within 99 DAYS");
        // NEEDS 2, WEARS 1: through on DAYS 1, 8, .. 92, SHORT on 99
        GritIsIssued x = told("pc101;g015;i015;");
        due("who, on DAY 99", x.first(0), 0);
        due("when", x.first(1), 99);
        x.due(0, 2);
        due("who, on DAY 100", x.first(0), -9);
        due("when", x.first(1), -9);
        sentence("FIRST: .. of several the least");
        GritIsIssued several = told("pm003;pm002;pm002;");
        due("who, of two on one DAY", several.first(0), 1);
        due("when", several.first(1), 2);
        several.due(0, 2);
        due("who, of three", several.first(0), 0);
        several.due(2, 1);
        due("who, the soonest", several.first(0), 2);
        due("when", several.first(1), 1);
        sentence("FIRST: .. -9; when");
        due("nobody is there", new GritIsIssued().first(0), -9);
        due("nobody is there", new GritIsIssued().first(1), -9);
        GritIsIssued never = told("pg001;pc000;");
        never.days(1);
        never.fills(9);
        never.issues(0, 1);
        due("SHORT ahead of now only", never.first(0), -9);
        due("when", never.first(1), -9);
    }

    private static void lasts() {
        sentence("LASTS: how many matters one gets through from now, till he is SHORT first");
        GritIsIssued x = told("g099;pm001;i009;pm001;i104;pc000;");
        due("9, 7, 5", x.lasts(0), 3);
        due("SHORT at once", x.lasts(1), 0);
        due("no matter", x.lasts(2), 0);
        x.days(1);
        due("from now", x.lasts(0), 2);
        sentence("LASTS: .. (within 99 DAYS; none: all of these)");
        GritIsIssued girl = told("g099;pg003;i001;");
        due("DAYS 3, 11, .. 99", girl.lasts(0), 13);
        girl.due(0, 4);
        due("DAYS 4, 12, .. 92 and not 100", girl.lasts(0), 12);
        GritIsIssued clerk = told("pc102;g015;i014;");
        // DAYS 2, 9, .. 86, then SHORT on 93
        due("SHORT within", clerk.lasts(0), 13);
        clerk.issues(0, 1);
        due("SHORT on DAY 100, beyond", clerk.lasts(0), 14);
    }

    // ---- what is lacking

    private static void lacks() {
        sentence("LACKS: how many grains one lacks for his matter (0 if none)");
        GritIsIssued x = told("g099;pc501;");
        due("all", x.person(0, 7), 6);
        x.issues(0, 5);
        due("one", x.person(0, 7), 1);
        x.issues(0, 1);
        due("none", x.person(0, 7), 0);
        x.issues(0, 1);
        due("none, he HAS more", x.person(0, 7), 0);
        x.returns(0);
        x.due(0, 0);
        due("no matter", x.person(0, 7), 0);
        x.due(0, 60);
        due("a matter in 60 DAYS", x.person(0, 7), 6);
        sentence("ALL LACK: together of those who have a matter");
        due("nobody", new GritIsIssued().lacks(), 0);
        GritIsIssued all = told("g099;pc501;pc500;pm060;ph401;i399;");
        due("6 and 5; one has no matter, one HAS more", all.lacks(), 11);
        all.due(2, 0);
        due("6", all.lacks(), 6);
        all.due(0, 0);
        due("none", all.lacks(), 0);
    }

    private static void next() {
        sentence("NEXT: whose matter is DUE soonest, of several the least; -9; in how many DAYS");
        due("nobody is there", new GritIsIssued().next(0), -9);
        due("nobody is there", new GritIsIssued().next(1), -9);
        GritIsIssued x = told("pc000;pc000;pc000;");
        due("nobody has a matter", x.next(0), -9);
        due("nobody has a matter", x.next(1), -9);
        x.due(2, 60);
        due("who", x.next(0), 2);
        due("in 60 DAYS", x.next(1), 60);
        x.due(1, 60);
        due("of two the least", x.next(0), 1);
        x.due(2, 59);
        due("the soonest", x.next(0), 2);
        due("in 59 DAYS", x.next(1), 59);
        x.due(0, 1);
        due("the soonest", x.next(0), 0);
        due("in 1 DAY", x.next(1), 1);
        x.days(1);
        due("of several", x.next(0), 0);
        due("his next", x.next(1), 7);
    }

    private static void enough() {
        sentence("ENOUGH: the least v (0 .. 99) of grains one must HAVE now so that he is not SHORT");
        // a MOTHER of FIGURE 1 NEEDS 6 and WEARS 3: 6 and 31 times 3
        GritIsIssued x = told("pm101;pc000;pg001;g099;");
        due("once", x.enough(0, 1), 6);
        due("32 times", x.enough(0, 32), 99);
        due("33 times", x.enough(0, 33), -9);
        // of FIGURE 5 he NEEDS 10 and WEARS 5: 10 and 17 times 5, 10 and 18 times 5
        x.turn(0, 1, 5);
        due("18 times", x.enough(0, 18), 95);
        due("100 is too many", x.enough(0, 19), -9);
        x.turn(0, 1, 1);
        due("no matter", x.enough(1, 60), 0);
        due("a GIRL", x.enough(2, 60), 1);
        x.issues(0, 50);
        due("whatever he HAS", x.enough(0, 1), 6);
        sentence("ENOUGH: .. in the next n DAYS (1 .. 60)");
        x.due(0, 2);
        due("not on DAY 1", x.enough(0, 1), 0);
        x.due(0, 60);
        due("not by DAY 59", x.enough(0, 59), 0);
        due("on DAY 60", x.enough(0, 60), 6);
    }

    // ---- SERVE, BEST

    private static void serveMost() {
        sentence("SERVE: of those who have a matter and lack something, the most (bits, of several the least)");
        due("nobody is there", new GritIsIssued().serve(0), 0);
        due("nobody is there", new GritIsIssued().serve(1), 0);
        due("nobody is there", new GritIsIssued().serve(2), 0);
        GritIsIssued none = told("g009;pc000;pc001;i101;");
        due("one has no matter, one lacks nothing", none.serve(0), 0);
        due("who", none.serve(1), 0);
        due("left", none.serve(2), 8);
        // they lack 10, 4, 6, 6, 4
        GritIsIssued x = told("pc901;pc301;pc501;pc501;pc301;g010;");
        due("two are more than one", x.serve(0), 2);
        due("1 and 2, of 1 and 2, 1 and 3, 1 and 4, 2 and 4, 3 and 4", x.serve(1), 6);
        due("left", x.serve(2), 0);
        x.fills(3);
        due("not three yet", x.serve(0), 2);
        x.fills(1);
        due("4, 6 and 4", x.serve(0), 3);
        due("1, 2 and 4, of these and 1, 3 and 4", x.serve(1), 22);
        due("left", x.serve(2), 0);
        x.fills(16);
        due("all", x.serve(0), 5);
        due("all", x.serve(1), 31);
        due("left", x.serve(2), 0);
        GritIsIssued eight = told("pc001;pc001;pc001;pc001;pc001;pc001;pc001;pc001;g009;");
        due("eight", eight.serve(0), 8);
        due("eight", eight.serve(1), 255);
        due("left", eight.serve(2), 1);
    }

    private static void serveJust() {
        sentence("SERVE: .. to whom all they lack can be ISSUED from the STORE at once .. what is left in it then");
        GritIsIssued x = told("pc501;g005;");
        due("one too few", x.serve(0), 0);
        due("who", x.serve(1), 0);
        due("left", x.serve(2), 5);
        x.fills(1);
        due("just as many", x.serve(0), 1);
        due("who", x.serve(1), 1);
        due("left", x.serve(2), 0);
        x.fills(1);
        due("one over", x.serve(2), 1);
        due("STORE", x.count(2), 7);
    }

    private static void bestSets() {
        sentence("BEST: the set of PEOPLE (bits, of several the least)");
        due("of nobody", new GritIsIssued().best(1, 0), 0);
        due("of nobody", new GritIsIssued().best(1, 1), 0);
        GritIsIssued none = told("g009;pc001;i001;pc000;");
        due("they are THROUGH without", none.best(1, 0), 1);
        due("which", none.best(1, 1), 0);
        GritIsIssued x = told("pc501;pc501;pc501;g006;");
        due("for one", x.best(1, 0), 1);
        due("the least", x.best(1, 1), 1);
        x.due(0, 2);
        due("0 gains nothing on the next DAY", x.best(1, 1), 2);
        due("any, in two", x.best(2, 1), 1);
        x.fills(6);
        due("1 and 2", x.best(1, 1), 6);
        due("how many", x.best(1, 0), 2);
        x.fills(6);
        due("all", x.best(2, 1), 7);
        due("how many", x.best(2, 0), 3);
        sentence("BEST: .. as far as the STORE goes (by numbers, each all or nothing)");
        GritIsIssued y = told("pc501;pc401;g005;");
        due("too few for 0", y.best(1, 1), 2);
        due("how many", y.best(1, 0), 1);
        y.fills(5);
        due("one too few for both", y.best(1, 0), 1);
        due("which", y.best(1, 1), 1);
        y.fills(1);
        due("just both", y.best(1, 0), 2);
        due("which", y.best(1, 1), 3);
        GritIsIssued eight = told("pc001;pc001;pc001;pc001;pc001;pc001;pc001;pc001;g008;");
        due("all eight", eight.best(1, 0), 8);
        due("all eight", eight.best(1, 1), 255);
    }

    private static void bestDays() {
        sentence("BEST: .. most are THROUGH in the next n DAYS (1 .. 30)");
        GritIsIssued x = told("pc530;pm002;g009;");
        due("none on the next DAY", x.best(1, 0), 0);
        due("which", x.best(1, 1), 0);
        due("a MOTHER on DAY 2", x.best(2, 0), 1);
        due("which", x.best(2, 1), 2);
        due("29 DAYS", x.best(29, 1), 2);
        due("29 DAYS", x.best(29, 0), 1);
        due("either, on DAY 30 too", x.best(30, 1), 1);
        x.fills(2);
        due("29 DAYS", x.best(29, 0), 1);
        due("both by DAY 30", x.best(30, 0), 2);
        due("both by DAY 30", x.best(30, 1), 3);
        GritIsIssued y = told("pm001;g099;i009;");
        y.days(1);
        due("THROUGH ahead of now is not counted", y.best(30, 0), 2);
        due("nor SHORT", y.best(1, 0), 1);
    }

    // ---- RUN, STOCK

    private static void runDays() {
        sentence("RUN: .. behind how many DAYS (0 .. 60) the STORE first refuses somebody; -9; whom");
        due("nobody is there", new GritIsIssued().run(0), -9);
        due("nobody is there", new GritIsIssued().run(1), -9);
        GritIsIssued now = told("pc001;");
        due("behind none", now.run(0), 0);
        due("whom", now.run(1), 0);
        now.due(0, 2);
        due("behind 1", now.run(0), 1);
        now.due(0, 60);
        due("behind 59", now.run(0), 59);
        // a HERO of FIGURE 0 NEEDS 2 and WEARS 2
        GritIsIssued far = told("pc000;ph031;g002;");
        due("behind 60", far.run(0), 60);
        due("whom", far.run(1), 1);
        far.due(1, 32);
        due("behind 61", far.run(0), -9);
        due("whom", far.run(1), -9);
        far.due(1, 31);
        far.fills(2);
        due("behind 90", far.run(0), -9);
        due("the STORE stays", far.count(2), 4);
    }

    private static void runAllOrNothing() {
        sentence("RUN: if, ahead of each DAY, each whose DUE is 1 were ISSUED what he lacks (by numbers; each all or nothing)");
        GritIsIssued x = told("pc501;pc401;g005;");
        due("0 is ahead of 1", x.run(1), 0);
        x.fills(1);
        due("0 HAS all of it", x.run(1), 1);
        due("behind none", x.run(0), 0);
        x.fills(4);
        due("one too few for 1", x.run(1), 1);
        x.fills(1);
        // both WEAR then 3 and 2
        due("just for both: 0 on DAY 8", x.run(0), 7);
        due("whom", x.run(1), 0);
        x.fills(3);
        due("1 on DAY 8", x.run(1), 1);
        due("behind 7", x.run(0), 7);
        x.fills(2);
        due("on DAY 15", x.run(0), 14);
        GritIsIssued other = told("pc502;pc401;g005;");
        due("DUE 2 is not DUE 1", other.run(0), 1);
        due("whom", other.run(1), 0);
        GritIsIssued none = told("pg001;g001;i001;");
        due("he lacks nothing of none", none.run(0), -9);
    }

    private static void stock() {
        sentence("STOCK: the least STORE (0 .. 999) with which it refuses nobody ahead of any of the next n DAYS (1 .. 30); -9");
        due("nobody is there", new GritIsIssued().stock(30), 0);
        GritIsIssued x = told("pc502;g500;");
        due("ahead of DAY 1", x.stock(1), 0);
        due("ahead of DAY 2", x.stock(2), 6);
        x.due(0, 30);
        due("ahead of DAY 29", x.stock(29), 0);
        due("ahead of DAY 30", x.stock(30), 6);
        due("whatever it has", told("pc530;").stock(30), 6);
        // MOTHERS of FIGURE 9 lack 14, then 7 each DAY: five in 27 DAYS 980; a HERO of FIGURE 6 14, a MOTHER 5 or 6
        GritIsIssued y = told("pm901;pm901;pm901;pm901;pm901;ph601;pm027;");
        due("in 26 DAYS", y.stock(26), 959);
        due("999", y.stock(27), 999);
        due("above", y.stock(28), -9);
        y.turn(6, 1, 1);
        due("1000", y.stock(27), -9);
    }

    // ---- BORROW, SWEEP, GRAIN

    private static void borrowHasSoMuch() {
        sentence("BORROW of one: of whom (who HAS so much, HAS 99 at most for himself)");
        GritIsIssued x = told("pc501;pc000;g099;i105;");
        due("he HAS one too few", x.borrow(0, 1), -9);
        x.issues(1, 1);
        due("he HAS just so much", x.borrow(0, 1), 1);
        x.issues(0, 1);
        x.returns(1);
        x.issues(1, 5);
        due("5 that one lacks", x.borrow(0, 1), 1);
        GritIsIssued alone = told("pc901;g099;i005;");
        due("not of himself, who HAS 5 and lacks 5", alone.borrow(0, 1), -9);
        GritIsIssued most = told("pc901;pc000;g099;i199;");
        due("of one who HAS 99", most.borrow(0, 1), 1);
        sentence("BORROW: .. -9 (also if he lacks nothing)");
        GritIsIssued none = told("pc001;pc000;g099;i109;i001;");
        due("he HAS what he NEEDS", none.borrow(0, 30), -9);
        due("he has no matter", none.borrow(1, 30), -9);
        none.returns(0);
        due("he lacks one", none.borrow(0, 30), 1);
        none.returns(1);
        due("nobody HAS any", none.borrow(0, 30), -9);
    }

    private static void borrowMore() {
        sentence("BORROW: .. THROUGH by most more in the next n DAYS (1 .. 30) than if not (by 1 at least), of several the least");
        // 1 would be SHORT in turn, 2 and 3 not
        GritIsIssued x = told("pc501;pc501;pc000;pc000;g099;i106;i206;i306;");
        due("of two the least", x.borrow(0, 1), 2);
        x.returns(2);
        due("the other", x.borrow(0, 1), 3);
        x.returns(3);
        due("none more by 1", x.borrow(0, 1), -9);
        // a GIRL gains 4 times by 1: a MOTHER who HAS 5 loses once by it, one without a matter never
        GritIsIssued most = told("pg001;pm001;pc000;g099;i105;i205;");
        due("3 more with 1, 4 more with 2", most.borrow(0, 30), 2);
        most.returns(2);
        due("3 more with 1", most.borrow(0, 30), 1);
        due("none more on DAY 1", most.borrow(0, 1), -9);
        sentence("BORROW: .. in the next n DAYS (1 .. 30)");
        GritIsIssued y = told("pc530;pc000;g099;i106;");
        due("DAY 30 is not in 29", y.borrow(0, 29), -9);
        due("DAY 30", y.borrow(0, 30), 1);
        y.due(0, 2);
        due("DAY 2 is not in 1", y.borrow(0, 1), -9);
        y.due(0, 1);
        due("DAY 1", y.borrow(0, 1), 1);
    }

    private static void sweepNobody() {
        sentence("SWEEP: .. -9 nobody HAS any; how many more");
        due("nobody is there", new GritIsIssued().sweep(1, 0), -9);
        due("nobody is there", new GritIsIssued().sweep(1, 1), -9);
        GritIsIssued x = told("pc001;pc001;g009;");
        due("nobody HAS any", x.sweep(1, 0), -9);
        due("nobody HAS any", x.sweep(1, 1), -9);
        x.issues(1, 1);
        due("one HAS one", x.sweep(1, 0), 1);
        due("once more", x.sweep(1, 1), 1);
        x.due(1, 0);
        due("none more", x.sweep(1, 1), 0);
        due("who", x.sweep(1, 0), 1);
    }

    private static void sweepFewest() {
        sentence("SWEEP: .. fewest more are SHORT in the next n DAYS (1 .. 30) than if not, of several the least");
        GritIsIssued x = told("pm001;pc001;pc001;g099;i009;i101;i201;");
        due("each once", x.sweep(1, 0), 0);
        due("how many more", x.sweep(1, 1), 1);
        // the MOTHER thrice, the CLERKS once in 7 DAYS
        due("of two the least", x.sweep(7, 0), 1);
        due("how many more", x.sweep(7, 1), 1);
        due("on DAY 8 again", x.sweep(8, 1), 2);
        due("who", x.sweep(8, 0), 1);
        due("in 15 DAYS all thrice", x.sweep(15, 0), 0);
        due("how many more", x.sweep(15, 1), 3);
        GritIsIssued y = told("pc030;g009;i001;");
        due("DAY 30 is not in 29", y.sweep(29, 1), 0);
        due("DAY 30", y.sweep(30, 1), 1);
        GritIsIssued gone = told("pm901;g099;i013;");
        due("SHORT anyhow", gone.sweep(30, 1), 0);
    }

    private static void grainAtMost() {
        sentence("GRAIN: the one to whom one grain more (99 at most) does most");
        // a MOTHER of FIGURE 5 NEEDS 10 and WEARS 5: with 100 she would get through once more than with 99
        GritIsIssued x = told("pm501;g099;i099;");
        due("he HAS 99", x.grain(30), -9);
        // of FIGURE 9 14 and 7: once more with 98 than with 97
        GritIsIssued y = told("pm901;g099;i097;");
        due("he HAS 97", y.grain(30), 0);
        y.issues(0, 1);
        due("he HAS 98", y.grain(30), -9);
        GritIsIssued none = told("pc001;");
        due("he HAS none, and the STORE neither", none.grain(1), 0);
    }

    private static void grainMost() {
        sentence("GRAIN: .. all THROUGH in the next n DAYS (1 .. 30), more than else, of several the least; -9");
        due("nobody is there", new GritIsIssued().grain(1), -9);
        GritIsIssued x = told("pc001;pc001;pm001;g099;i206;");
        due("of two the least", x.grain(1), 0);
        // a CLERK of FIGURE 0 WEARS none: on DAYS 1, 8, .. 29
        due("five times", x.grain(30), 0);
        x.due(0, 9);
        due("the second five times, the first three times", x.grain(30), 1);
        x.issues(0, 1);
        x.issues(1, 1);
        // 6 do for one DAY, 7 for two
        due("the MOTHER once more, in two DAYS", x.grain(2), 2);
        due("in one DAY not", x.grain(1), -9);
        GritIsIssued y = told("pc030;");
        due("DAY 30 is not in 29", y.grain(29), -9);
        due("DAY 30", y.grain(30), 0);
        GritIsIssued two = told("pc101;");
        due("one grain is too few", two.grain(30), -9);
        due("no matter", told("pc000;").grain(30), -9);
    }

    // ---- shares, trust

    private static void shares() {
        sentence("SHARES: the STORE by PEOPLE, cut; what is over");
        String[] stores = {"g000;", "g001;", "g007;", "g008;", "g009;", "g015;", "g999;"};
        int[] each = {0, 0, 0, 1, 1, 1, 124};
        int[] over = {0, 1, 7, 0, 1, 7, 7};
        for (int i = 0; i < stores.length; i++) {
            GritIsIssued x = told("pc000;pc000;pc000;pc000;pc000;pc000;pc000;pc000;" + stores[i]);
            due("each of eight, " + stores[i], x.shares(0), each[i]);
            due("over, " + stores[i], x.shares(1), over[i]);
        }
        GritIsIssued one = told("pc000;g009;");
        due("one alone", one.shares(0), 9);
        due("over", one.shares(1), 0);
        sentence("nobody: 0, the STORE");
        due("nobody, nothing", new GritIsIssued().shares(0), 0);
        due("nobody, nothing", new GritIsIssued().shares(1), 0);
        due("nobody", told("g999;").shares(0), 0);
        due("nobody", told("g999;").shares(1), 999);
    }

    private static void richest() {
        sentence("RICHEST: who HAS most, of several the least; -9");
        due("nobody is there", new GritIsIssued().richest(), -9);
        GritIsIssued x = told("pc000;pc000;pc000;g299;");
        due("each HAS none", x.richest(), 0);
        x.issues(2, 1);
        due("one HAS one", x.richest(), 2);
        x.issues(1, 1);
        due("of two the least", x.richest(), 1);
        x.issues(2, 98);
        due("one HAS 99", x.richest(), 2);
        x.issues(0, 99);
        due("of two the least", x.richest(), 0);
    }

    private static void trust() {
        sentence("TRUST of one: THROUGH less SHORT (may be below 0)");
        GritIsIssued x = told("pm001;g099;i005;");
        due("at first", x.trusted(0), 0);
        x.days(1);
        due("THROUGH", x.trusted(0), 1);
        x.days(1);
        due("even", x.trusted(0), 0);
        x.days(1);
        due("below 0", x.trusted(0), -1);
        x.days(9);
        due("below 0", x.trusted(0), -10);
    }

    private static void worth() {
        sentence("WORTH: that of all together");
        due("nobody is there", new GritIsIssued().worth(), 0);
        GritIsIssued x = told("pm001;pm001;pg001;g099;i007;i201;");
        due("at first", x.worth(), 0);
        x.days(1);
        due("2 less 1 and 1", x.worth(), 1);
        x.days(7);
        // 2 less 6; none less 8; none more of the GIRL
        due("below 0", x.worth(), -4 - 8 + 1);
    }

    // ---- TWO

    private static void twoSign() {
        sentence("TWO of PEOPLE, each signs for what he lacks now (1; all or nothing, the first ahead) or not (0)");
        GritIsIssued x = told("pc501;pc401;g005;");
        due("too few for the first", x.two(0, 1, 1), 1);
        due("the other first", x.two(1, 0, 1), 10);
        x.fills(1);
        due("the first ahead", x.two(0, 1, 1), 10);
        due("the other first", x.two(1, 0, 1), 10);
        x.fills(4);
        due("one too few for both", x.two(0, 1, 1), 10);
        x.fills(1);
        due("just for both", x.two(0, 1, 1), 11);
        due("just for both", x.two(1, 0, 1), 11);
        due("the STORE stays", x.count(2), 11);
        due("he HAS none still", x.person(0, 2), 0);
        // a HERO of FIGURE 9 had better leave the 20 that cost 2
        GritIsIssued left = told("ph901;pc501;g020;");
        due("what the first does not sign for is left", left.two(0, 1, 1), 1);
        due("what the other does not sign for is left", left.two(1, 0, 1), 10);
    }

    private static void twoCut() {
        sentence("TWO: .. less 1 for each 10 grains ISSUED to him (cut)");
        // a HERO gets through once in 30 DAYS: 8 grains cost none, 10 cost 1
        GritIsIssued hero = told("ph301;pc000;g099;");
        due("8 grains", hero.two(0, 1, 30), 10);
        hero.turn(0, 2, 4);
        due("10 grains", hero.two(0, 1, 30), 0);
        hero.issues(0, 1);
        due("9 grains", hero.two(0, 1, 30), 10);
        due("9 grains of the other", hero.two(1, 0, 30), 1);
        // a MOTHER of FIGURE 9 NEEDS 14 and WEARS 7; with 14 once, which costs 1
        GritIsIssued mother = told("pm901;pc000;g099;");
        due("14 grains for one matter", mother.two(0, 1, 30), 0);
        // a GIRL as ever: each 8 DAYS for 1; a TYPIST of FIGURE 9 who NEEDS 5 and WEARS 1
        GritIsIssued small = told("pg001;pt901;g099;");
        due("1 grain and 5", small.two(0, 1, 1), 11);
        // a DIVORCED one of FIGURE 4 NEEDS 19, of FIGURE 5 20: one matter, it costs 1 and 2
        GritIsIssued once = told("pd401;pc000;g099;");
        due("19 grains cost 1", once.two(0, 1, 1), 0);
        once.issues(0, 10);
        due("9 grains", once.two(0, 1, 1), 10);
        // a CLERK of FIGURE 9 NEEDS 10 and WEARS 5: 10 cost 1 and do one matter; he HAS 0 .. then 5 for nothing more
        GritIsIssued clerk = told("pc901;pc000;g099;");
        due("one matter for 10", clerk.two(0, 1, 30), 0);
        clerk.issues(0, 1);
        due("one matter for 9", clerk.two(0, 1, 30), 10);
    }

    private static void twoFirstPair() {
        sentence("TWO: the first pair (10 the first's and the other's) by which neither has more by another one alone");
        GritIsIssued none = told("pc000;pc000;g099;");
        due("signing does nothing", none.two(0, 1, 30), 0);
        GritIsIssued x = told("pc501;pc000;g099;");
        due("the first alone", x.two(0, 1, 1), 10);
        due("the other alone", x.two(1, 0, 1), 1);
        x.due(1, 1);
        due("both", x.two(0, 1, 1), 11);
        sentence("TWO: .. in the next n DAYS (1 .. 30)");
        x.due(0, 30);
        x.due(1, 2);
        due("neither by DAY 1", x.two(0, 1, 1), 0);
        due("the other by DAY 2", x.two(0, 1, 2), 1);
        due("the other by DAY 29", x.two(0, 1, 29), 1);
        due("both by DAY 30", x.two(0, 1, 30), 11);
    }

    // ---- SLIP, MEAN

    private static void slipIs(String what, GritIsIssued x, int person, int n, int t, int v, long above, long below) {
        due(what + ", above the line", x.slip(person, n, t, v, 0), above);
        due(what + ", below it", x.slip(person, n, t, v, 1), below);
    }

    private static void slipOdds() {
        sentence("SLIP: on each of n DAYS (0 .. 7), by itself, with odds 1 in t (2 .. 20) one loses 1 grain ahead of it");
        // a MOTHER of FIGURE 0 NEEDS 5 and WEARS 2: 17 do just for 7 DAYS
        GritIsIssued x = told("pm001;g099;i017;");
        slipIs("no DAY, none more", x, 0, 0, 2, 0, 1, 1);
        slipIs("no DAY, one more", x, 0, 0, 2, 1, 0, 1);
        slipIs("7 DAYS, 1 in 2", x, 0, 7, 2, 7, 1, 128);
        slipIs("7 DAYS, 1 in 20", x, 0, 7, 20, 7, 893871739L, 1280000000L);
        // on 6 DAYS he may lose 2, whatever he loses on the 7th: 22 of 64
        slipIs("6 of 7", x, 0, 7, 2, 6, 11, 32);
        GritIsIssued y = told("pc502;g099;i006;");
        slipIs("on neither of 2 DAYS", y, 0, 2, 3, 1, 4, 9);
        slipIs("his matter is not in 1", y, 0, 1, 3, 1, 0, 1);
        y.due(0, 1);
        slipIs("ahead of the DAY itself", y, 0, 1, 2, 1, 1, 2);
        slipIs("not behind it", y, 0, 7, 2, 1, 1, 2);
        slipIs("1 in 20", y, 0, 1, 20, 1, 19, 20);
        due("HAS stays", y.person(0, 2), 6);
    }

    private static void slipNoneBelow() {
        sentence("SLIP: .. (0 at least; it is not WORN)");
        // a TYPIST of FIGURE 0 NEEDS 0, which he HAS whatever he loses
        GritIsIssued x = told("pt007;");
        slipIs("of none he loses none", x, 0, 7, 2, 1, 1, 1);
        GritIsIssued one = told("pt007;g001;i001;");
        slipIs("of one he loses one", one, 0, 7, 2, 1, 1, 1);
        due("WORN", one.count(3), 0);
        due("HAS", one.person(0, 2), 1);
    }

    private static void slipAbove() {
        sentence("SLIP: .. how likely his THROUGH is v (0 .. 9) or more above now behind these: a fraction");
        GritIsIssued x = told("pm001;g099;i099;");
        x.days(1);
        slipIs("above now, not above 0", x, 0, 1, 2, 2, 0, 1);
        slipIs("just v", x, 0, 7, 2, 7, 1, 1);
        slipIs("more than v", x, 0, 7, 2, 6, 1, 1);
        slipIs("v 0", x, 0, 7, 2, 0, 1, 1);
        slipIs("v 8", x, 0, 7, 2, 8, 0, 1);
        slipIs("v 9", x, 0, 7, 20, 9, 0, 1);
        sentence("Fractions are told in least terms; 0 as 0 by 1");
        GritIsIssued y = told("pc001;g001;i001;");
        // 9 by 10 of 100 on 2 DAYS, of 10000000 on 7
        slipIs("on 2 DAYS", y, 0, 2, 10, 1, 9, 10);
        slipIs("on 7 DAYS", y, 0, 7, 10, 1, 9, 10);
        slipIs("none", y, 0, 7, 20, 2, 0, 1);
    }

    private static void mean() {
        sentence("MEAN: of HAS: a fraction (0 by 1 of nobody)");
        GritIsIssued nobody = told("g099;");
        due("above", nobody.mean(0), 0);
        due("below", nobody.mean(1), 1);
        sentence("MEAN; 0 as 0 by 1");
        GritIsIssued x = told("pc000;pc000;pc000;pc000;pc000;pc000;pc000;pc000;g999;");
        due("above", x.mean(0), 0);
        due("below", x.mean(1), 1);
        sentence("MEAN; least terms");
        x.issues(7, 1);
        due("1 by 8", x.mean(0), 1);
        due("1 by 8", x.mean(1), 8);
        x.issues(0, 5);
        due("6 by 8", x.mean(0), 3);
        due("6 by 8", x.mean(1), 4);
        for (int p = 0; p < 8; p++) x.issues(p, 99 - x.person(p, 2));
        due("792 by 8", x.mean(0), 99);
        due("792 by 8", x.mean(1), 1);
    }

    // ---- the ROW

    private static void whatOneIs() {
        sentence("WHAT ONE IS: a ROW tells HAS of one behind 0, 1, .. DAYS");
        // of FIGURE 5 one WEARS as c 3, m 5, h 12, t 1, d 6, g 0
        GritIsIssued x = told("pc501;g099;i020;");
        due("no number: each KIND", x.whatIs(0, 0), 63);
        due("no number: each FIGURE", x.whatIs(0, 1), 1023);
        x.row(20);
        due("behind none", x.whatIs(0, 0), 63);
        due("behind none", x.whatIs(0, 1), 1023);
        int[] behindOne = {17, 15, 8, 19, 14, 20};
        for (int kind = 0; kind < 6; kind++) {
            x.clear();
            x.row(20);
            x.row(behindOne[kind]);
            due("behind one", x.whatIs(0, 0), 1 << kind);
        }
        x.clear();
        x.row(19);
        due("not now", x.whatIs(0, 0), 0);
        due("not now", x.whatIs(0, 1), 0);
        sentence("FIGURES (bits 0 .. 9)");
        GritIsIssued hero = told("ph001;g099;i020;");
        for (int figure = 0; figure <= 9; figure++) {
            hero.clear();
            hero.row(20);
            hero.row(20 - 2 * (figure + 1));
            due("FIGURE " + figure, hero.whatIs(0, 1), 1 << figure);
        }
    }

    private static void rowOfNumbers() {
        sentence("A ROW of numbers (0 .. 99; 16 at most)");
        // his matter is on the 15th DAY, of which the 16th number tells
        GritIsIssued x = told("pc515;g099;i020;");
        for (int i = 1; i <= 15; i++) due("row", x.row(20), i);
        due("15 numbers tell nothing yet", x.whatIs(0, 0), 63);
        due("the 16th", x.row(17), 16);
        due("a CLERK", x.whatIs(0, 0), 1);
        due("FIGURE 5 or 6", x.whatIs(0, 1), 96);
        due("a 17th", x.row(17), -6);
        due("all so still", x.whatIs(0, 0), 1);
        GritIsIssued ends = told("pc000;pc000;g099;i199;");
        ends.row(0);
        due("HAS 0", ends.whatIs(0, 0), 63);
        ends.clear();
        ends.row(99);
        due("HAS 99", ends.whatIs(1, 0), 63);
        due("HAS 0", ends.whatIs(0, 0), 0);
    }

    private static int judged(String people, int... row) {
        GritIsIssued x = people.isEmpty() ? new GritIsIssued() : told(people);
        for (int v : row) x.row(v);
        return x.judge();
    }

    private static void judged() {
        sentence("JUDGED: DUE of PEOPLE 0, 1, ..: the first that is not so (nobody there, too); -9");
        due("no number, nobody", judged(""), -9);
        due("no number", judged("pc005;"), -9);
        due("nobody there", judged("", 0), 0);
        due("so", judged("pc005;", 5), -9);
        due("not so", judged("pc005;", 6), 0);
        due("not so", judged("pc005;", 4), 0);
        due("no matter", judged("pc000;", 0), -9);
        due("no number of the last", judged("pc005;pc060;", 5), -9);
        due("all", judged("pc005;pc060;", 5, 60), -9);
        due("nobody behind them", judged("pc005;pc060;", 5, 60, 0), 2);
        due("the first of two", judged("pc005;pc060;", 6, 61), 0);
        due("the last", judged("pc005;pc060;", 5, 61), 1);
        String eight = "pc001;pc002;pc003;pc004;pc005;pc006;pc007;pc008;";
        due("all eight", judged(eight, 1, 2, 3, 4, 5, 6, 7, 8), -9);
        due("the eighth", judged(eight, 1, 2, 3, 4, 5, 6, 7, 9), 7);
        due("no ninth", judged(eight, 1, 2, 3, 4, 5, 6, 7, 8, 0), 8);
        due("16 numbers", judged(eight, 1, 2, 3, 4, 5, 6, 7, 8, 0, 0, 0, 0, 0, 0, 0, 0), 8);
    }

    // ---- LOTS

    private static void lotsSprings() {
        sentence("LOTS with a seed z: n springs (1 .. 20): HAS of each, by numbers, a DRAW below 30, then 20 DAYS");
        GritIsIssued x = told("pg001;g099;i050;");
        // a GIRL of whatever she draws above 0 gets through on DAYS 1, 9, 17
        due("one spring", x.lots(1, 0, 0), 3);
        due("20 springs, all matters", x.lots(20, 0, 0) + x.lots(20, 0, 1), 60);
        x.due(0, 20);
        due("DAY 20", x.lots(1, 0, 0), 1);
        x.due(0, 21);
        due("DAY 21", x.lots(1, 0, 0), 0);
        due("nobody", new GritIsIssued().lots(20, 1, 0), 0);
        due("nobody", new GritIsIssued().lots(20, 1, 1), 0);
        // z 18 draws 0
        x.due(0, 20);
        due("what one HAS now is not there then", x.lots(1, 18, 0), 0);
        due("SHORT", x.lots(1, 18, 1), 1);
        due("HAS stays", x.person(0, 2), 50);
        // z 1 draws 15, 3, 9, 0, 1: a DIVORCED one of FIGURE 0 NEEDS 15
        GritIsIssued d = told("pd020;");
        due("the first", d.lots(1, 1, 0), 1);
        due("5 springs, z goes on", d.lots(5, 1, 0), 1);
        due("5 springs, z goes on", d.lots(5, 1, 1), 4);
        // z 0 draws 23, 27, 6, 29: for two by turns
        GritIsIssued two = told("pd820;pm320;");
        due("the first draws 23, 6", two.lots(2, 0, 0), 1 + 2);
        due("SHORT", two.lots(2, 0, 1), 1);
        two.due(0, 0);
        due("one without a matter draws too", two.lots(2, 0, 0), 2);
        two.due(0, 20);
        two.due(1, 0);
        due("one without a matter draws too", two.lots(2, 0, 0), 1);
        sentence("LOTS: THROUGH more of all together; SHORT more");
        // the GIRL's matters are then on DAYS 7 and 15
        GritIsIssued more = told("pm001;pg001;g099;i009;");
        more.days(10);
        due("as many more as there are matters, not all", more.lots(1, 18, 0) + more.lots(1, 18, 1), 20 + 2);
    }

    /** Whether the first DRAW with that seed does for a matter that NEEDS so many, and whether not for one that NEEDS one more. */
    private static void draws(int z, int draw) {
        if (draw >= 1) due("draw of " + z, who(draw).lots(1, z, 0), 1);
        if (draw <= 23) due("draw of " + z, who(draw + 1).lots(1, z, 1), 1);
    }

    private static GritIsIssued who(int needs) {
        if (needs <= 10) return told("pc" + (needs - 1) + "20;");
        return needs <= 14 ? told("pm" + (needs - 5) + "20;") : told("pd" + (needs - 15) + "20;");
    }

    private static void draw() {
        sentence("A DRAW below m: z becomes z times 1664525 and 1013904223 (an int)");
        // 1013904223, 1015568748, 1017233273 and 1043865673 by 256 are 3960563, 3967065, 3973567 and 4077600
        draws(0, 23);
        draws(1, 15);
        draws(2, 7);
        draws(18, 0);
        // -1 makes 1012239698
        draws(-1, 1);
        // 100000000 makes 166453513904223, which is 2056347743 as an int
        draws(100000000, 18);
        sentence("(z without its sign's bit by 256, cut) modulo m");
        // 2147483647 makes -1135243950, which is 1012239698 without it; -2147483648 makes 1013904223 with it
        draws(Integer.MAX_VALUE, 1);
        draws(Integer.MIN_VALUE, 23);
        // 1000000 makes -908406625 and -1000 -650620777: without it 1239077023 and 1496862871
        draws(1000000, 4);
        draws(-1000, 0);
        sentence("a DRAW below 30");
        // z 3 draws 29: a MOTHER of FIGURE 0 with 29, 27, .. 5 gets through 13 times, with 28 12 times
        due("29", told("pm001;").lots(1, 3, 0), 13);
        due("0", told("pm001;").lots(1, 18, 1), 20);
        due("0 does for a TYPIST who NEEDS none", told("pt020;").lots(1, 18, 0), 1);
    }
}
