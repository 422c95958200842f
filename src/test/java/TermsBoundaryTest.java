/** The first part of the document's Terms: each sentence that names a boundary has a test of its own, with that sentence at its head. */
public final class TermsBoundaryTest {
    private static final String KINDS = "cmhtdg";
    private static final int C = 0;
    private static final int M = 1;
    private static final int H = 2;
    private static final int T = 3;
    private static final int D = 4;
    private static final int G = 5;

    private static int right = 0;
    private static int wrong = 0;
    private static String sentence = "";

    private static void sentence(String words) {
        sentence = words;
    }

    private static void due(String call, long got, long want) {
        if (got == want) {
            right++;
        } else {
            wrong++;
            System.out.println("\"" + sentence + "\": " + call + " answered " + got + ", due is " + want);
        }
    }

    private static int tell(GritIsIssued x, String letters) {
        for (int i = 0; i < letters.length(); i++) x.letter(letters.charAt(i));
        return x.counter();
    }

    private static GritIsIssued told(String letters) {
        GritIsIssued x = new GritIsIssued();
        int statements = tell(x, letters);
        if (statements < 0) due("told " + letters, statements, 1);
        return x;
    }

    /** What a COUNTER of these letters answers on an object of which the first ones were told. */
    private static int behind(String first, String letters) {
        return tell(first.isEmpty() ? new GritIsIssued() : told(first), letters);
    }

    private static GritIsIssued onDay(int day, String letters) {
        GritIsIssued x = letters.isEmpty() ? new GritIsIssued() : told(letters);
        for (int left = day; left > 0; left -= 60) x.days(Math.min(60, left));
        return x;
    }

    /** All that can be seen of it, but letters and REFUSALS. */
    private static String seen(GritIsIssued x) {
        StringBuilder all = new StringBuilder();
        for (int what = 0; what <= 6; what++) all.append(x.count(what)).append(' ');
        int people = x.count(0);
        for (int p = 0; p < people; p++) {
            for (int what = 0; what <= 5; what++) all.append(x.person(p, what)).append(' ');
        }
        return all.toString();
    }

    private static void same(String call, String got, String want) {
        if (!got.equals(want)) System.out.println("seen is " + got + ", as before would be " + want);
        due(call, got.equals(want) ? 1 : 0, 1);
    }

    public static void main(String[] args) {
        people();
        numbersOfPeople();
        numbersOfThrough();
        numbersOfShort();
        numbersOfAll();
        letters();
        formOfEachStatement();
        firstWrongLetter();
        theEnd();
        kindOneAheadOfKindTwo();
        numbersOutOfRange();
        nobodySoFar();
        moreThanTheStoreHas();
        hasAbove();
        storeAbove();
        dayAbove();
        noRoomForMore();
        firstOfSeveral();
        allOrNothing();
        handsInNothing();
        needs();
        wears();
        wearsNoMoreThanHeHas();
        nextMatter();
        handedIn();
        aDay();
        justEnough();
        System.out.println(right + " passed, " + wrong + " failed");
        if (wrong != 0) System.exit(1);
    }

    // ---- PEOPLE and their numbers

    private static void people() {
        sentence("PEOPLE 0 .. as they come (8 at most)");
        GritIsIssued x = new GritIsIssued();
        for (int p = 0; p < 8; p++) {
            due("nobody so far has number " + p, x.person(p, 1), -1);
            due("one more", tell(x, "pc" + (p + 1) + "00;"), 1);
            due("PEOPLE", x.count(0), p + 1);
            due("he who came as " + p, x.person(p, 1), p + 1);
        }
        due("a ninth", tell(x, "pc900;"), -2000);
        due("PEOPLE", x.count(0), 8);
        due("nobody has number 8", x.person(8, 1), -1);
        for (int p = 0; p < 8; p++) due("he is as he was", x.person(p, 1), p + 1);
    }

    private static void numbersOfPeople() {
        sentence("FIGURE (0 .. 9)");
        GritIsIssued figures = told("pc000;pc901;");
        due("least", figures.person(0, 1), 0);
        due("greatest", figures.person(1, 1), 9);
        sentence("HAS (grains, 0 .. 99; 0 at first)");
        GritIsIssued has = told("g100;pc500;");
        due("at first", has.person(0, 2), 0);
        due("99 more", has.issues(0, 99), 1);
        due("greatest", has.person(0, 2), 99);
        due("one more", has.issues(0, 1), -3);
        due("one more, told", tell(has, "i001;"), -2000);
        due("HAS", has.person(0, 2), 99);
        sentence("DUE (DAYS till his matter, 1 .. 60; 0 he has none, at first)");
        GritIsIssued dues = told("g009;pc001;pc060;pc000;i001;i101;i201;");
        due("1", dues.person(0, 3), 1);
        due("60", dues.person(1, 3), 60);
        due("none", dues.person(2, 3), 0);
        due("the first's matter is on the next DAY", dues.days(1), 1);
        dues.due(0, 0);
        due("60 DAYS are not over", dues.days(58), 0);
        due("60 DAYS are over", dues.days(1), 1);
        due("who has none gets through nothing", dues.person(2, 4), 0);
        due("nor is he SHORT", dues.person(2, 5), 0);
        due("he has none still", dues.person(2, 3), 0);
        dues.days(60);
        due("who has none gets through nothing", dues.person(2, 4), 0);
    }

    /** Person 0, a MOTHER of FIGURE 0 (NEEDS 5, WEARS 2), got through on each of so many DAYS and HAS 99 less 2 for each of the last. */
    private static GritIsIssued mother(int days) {
        GritIsIssued x = told("g099;pm001;i099;");
        for (int left = days; left > 0; left -= 48) {
            x.days(Math.min(48, left));
            if (left <= 48) continue;
            x.fills(96);
            x.issues(0, 96);
        }
        return x;
    }

    private static void numbersOfThrough() {
        sentence("THROUGH (how many he got through, 0 .. 999)");
        GritIsIssued x = mother(0);
        due("at first", x.person(0, 4), 0);
        GritIsIssued y = mother(997);
        due("997", y.person(0, 4), 997);
        due("998 in mind", y.personThen(0, 1, 2), 998);
        due("999 in mind", y.personThen(0, 2, 2), 999);
        due("999 in mind still", y.personThen(0, 3, 2), 999);
        due("999 in mind still, of all", y.allThen(9, 0), 999);
        due("the two last DAYS", y.days(2), 2);
        due("greatest", y.person(0, 4), 999);
        due("DAY is full", y.days(1), -6);
        due("greatest still in mind", y.personThen(0, 1, 2), 999);
        due("SHORT is none instead", y.personThen(0, 1, 3), 0);
        due("what he WEARS is gone all the same", y.person(0, 2) - y.personThen(0, 1, 0), 2);
        due("TRUST", y.trusted(0), 999);
        due("WORTH", y.worth(), 999);
    }

    private static void numbersOfShort() {
        sentence("SHORT (how many not, 0 .. 999)");
        GritIsIssued x = told("pm001;");
        due("at first", x.person(0, 5), 0);
        for (int i = 0; i < 16; i++) x.days(60);
        x.days(37);
        due("997", x.person(0, 5), 997);
        due("998 in mind", x.personThen(0, 1, 3), 998);
        due("999 in mind", x.personThen(0, 2, 3), 999);
        due("999 in mind still", x.personThen(0, 3, 3), 999);
        due("999 in mind still, of all", x.allThen(99, 1), 999);
        x.days(2);
        due("greatest", x.person(0, 5), 999);
        due("greatest still in mind", x.personThen(0, 1, 3), 999);
        due("THROUGH is none instead", x.personThen(0, 1, 2), 0);
        due("TRUST", x.trusted(0), -999);
        due("WORTH", x.worth(), -999);
    }

    /** STORE 999 and WORN 9998; 0 HAS none, 1 (a MOTHER of FIGURE 0, whose matter is on the next DAY) HAS 50. */
    private static GritIsIssued wornBut(int grains) {
        GritIsIssued x = told("g999;pc000;pm001;");
        for (int i = 0; i < 100; i++) {
            x.issues(0, 99);
            x.fills(99);
            x.returns(0);
        }
        x.issues(1, 50);
        x.fills(50);
        x.issues(0, 99 - grains);
        x.fills(99 - grains);
        x.returns(0);
        return x;
    }

    private static void numbersOfAll() {
        sentence("STORE (grains, 0 .. 999; 0 at first)");
        GritIsIssued x = new GritIsIssued();
        due("at first", x.count(2), 0);
        due("greatest", tell(x, "g999;"), 1);
        due("STORE", x.count(2), 999);
        due("one more", tell(x, "g001;"), -2000);
        due("one more", x.fills(1), -6);
        due("STORE", x.count(2), 999);
        GritIsIssued empty = told("pc000;g001;");
        due("to none", empty.issues(0, 1), 0);
        due("below none", empty.issues(0, 1), -3);
        due("STORE", empty.count(2), 0);
        sentence("WORN (grains that are gone, 0 .. 9999; 0 at first)");
        due("at first", x.count(3), 0);
        GritIsIssued just = wornBut(2);
        due("9997", just.count(3), 9997);
        due("a MOTHER WEARS 2", just.days(1), 1);
        due("greatest", just.count(3), 9999);
        GritIsIssued above = wornBut(1);
        due("9998", above.count(3), 9998);
        due("greatest in mind", above.allThen(1, 2), 9999);
        due("greatest still in mind", above.allThen(9, 2), 9999);
        due("a MOTHER WEARS 2", above.days(1), 1);
        due("greatest", above.count(3), 9999);
        due("what he WEARS is gone all the same", above.person(1, 2), 48);
        due("another DAY", above.days(1), 1);
        due("greatest still", above.count(3), 9999);
        GritIsIssued told = wornBut(1);
        due("a DAY, told", tell(told, "d01;"), 1);
        due("greatest", told.count(3), 9999);
        sentence("DAY (0 .. 999; 0 at first)");
        due("at first", x.count(1), 0);
        GritIsIssued last = onDay(998, "");
        due("998", last.count(1), 998);
        due("a DAY", last.days(1), 0);
        due("greatest", last.count(1), 999);
        due("one more", last.days(1), -6);
        due("one more, told", tell(last, "d01;"), -2000);
        due("DAY", last.count(1), 999);
    }

    // ---- a COUNTER's letters

    private static void letters() {
        sentence("A COUNTER is told in letters, one by one (96 at most)");
        GritIsIssued x = told("g050;pc000;i050;");
        StringBuilder text = new StringBuilder();
        for (int i = 0; i < 32; i++) text.append("r0;");
        for (int i = 0; i < 95; i++) due("letter " + i, x.letter(text.charAt(i)), i + 1);
        due("the 96th", x.letter(';'), 96);
        due("a 97th", x.letter('r'), -6);
        due("letters", x.count(7), 96);
        due("a COUNTER of 96 letters", x.counter(), 32);
        due("all of it came", x.count(2), 50);
        sentence("At least one STATEMENT");
        due("none", new GritIsIssued().counter(), -1000);
        due("one", tell(new GritIsIssued(), "g000;"), 1);
        due("none behind one that has come", x.counter(), -1000);
    }

    /** The letters that may stand at each place of a STATEMENT. */
    private static String[] allowed(char statement) {
        String digits = "0123456789";
        switch (statement) {
            case 'p': return new String[] {"p", KINDS, digits, digits, digits, ";"};
            case 'r': return new String[] {"r", digits, ";"};
            case 'd': return new String[] {"d", digits, digits, ";"};
            default: return new String[] {"" + statement, digits, digits, digits, ";"};
        }
    }

    private static void formOfEachStatement() {
        String[] statements = {"pm001;", "i000;", "r0;", "u000;", "g000;", "d01;"};
        for (String statement : statements) {
            sentence("STATEMENTS, each with \";\" behind: \"" + statement.charAt(0) + "\" ..");
            due(statement, behind("pc000;", statement), 1);
            String[] allowed = allowed(statement.charAt(0));
            for (int place = 1; place < allowed.length; place++) {
                for (int letter = 0; letter <= 255; letter++) {
                    String text = statement.substring(0, place) + (char) letter + statement.substring(place + 1);
                    int answer = behind("pc000;", text);
                    if (allowed[place].indexOf(letter) < 0) due("letter " + letter + " at " + place, answer, -1000 - place);
                    else due("letter " + letter + " at " + place + " has the form", answer == 1 || answer == -2000 ? 1 : answer, 1);
                }
            }
        }
        sentence("\"p\" a letter of a KIND, FIGURE (a digit), DUE (2 digits, 0 .. 60): one of PEOPLE more");
        for (int kind = 0; kind < 6; kind++) {
            for (int figure = 0; figure <= 9; figure++) {
                GritIsIssued x = told("p" + KINDS.charAt(kind) + figure + "07;");
                due("KIND", x.person(0, 0), kind);
                due("FIGURE", x.person(0, 1), figure);
                due("DUE", x.person(0, 3), 7);
            }
        }
    }

    private static void firstWrongLetter() {
        sentence("kind 1 the place of the first letter with which no COUNTER can go on");
        for (int letter = 0; letter <= 255; letter++) {
            if ("pirugd".indexOf(letter) >= 0) continue;
            due("letter " + letter + " first", behind("", "" + (char) letter), -1000);
            due("letter " + letter + " behind a STATEMENT", behind("", "d01;" + (char) letter + "d01;"), -1004);
        }
        due("a second ;", behind("", "d01;;"), -1004);
        due("a digit too many", behind("", "g0010;"), -1004);
        due("a digit too few", behind("", "g01;"), -1003);
        due("no digit of one", behind("pc000;", "r;"), -1001);
        due("the first of two wrong ones", behind("", "d01;qq"), -1004);
        due("the first of two wrong ones", behind("", "gx1x;"), -1001);
        StringBuilder text = new StringBuilder();
        for (int i = 0; i < 19; i++) text.append("g000;");
        due("the 96th letter", behind("", text + "x"), -1095);
    }

    private static void theEnd() {
        sentence("(the end, if something lacks)");
        String[] statements = {"pc000;", "i000;", "r0;", "u000;", "g000;", "d01;"};
        for (String statement : statements) {
            for (int length = 1; length < statement.length(); length++) {
                String begun = statement.substring(0, length);
                due(begun, behind("pc000;", begun), -1000 - length);
                due("d01;" + begun, behind("pc000;", "d01;" + begun), -1004 - length);
            }
        }
        due("no letter at all", behind("", ""), -1000);
        // that a COUNTER has 96 letters at most does not move the place
        StringBuilder text = new StringBuilder();
        for (int i = 0; i < 18; i++) text.append("g000;");
        due("begun at the 91st letter", behind("", text + "pc000"), -1095);
        due("full at the 96th", behind("", text + "pc000;"), 19);
        due("begun at the 94th letter", behind("", text + "r0;p"), -1094);
        due("begun at the 96th letter", behind("", text + "g000;p"), -1096);
    }

    private static void kindOneAheadOfKindTwo() {
        sentence("FAULT: kind 1 ..; else kind 2");
        due("kind 2 stands ahead in the text", behind("", "d00;d01"), -1007);
        due("kind 2 stands ahead in the text", behind("", "r0;x"), -1003);
        due("with its ; it is kind 2", behind("", "d00;d01;"), -2000);
    }

    private static void numbersOutOfRange() {
        sentence("a number out of range: DUE of one more (0 .. 60)");
        String[] dues = {"00", "01", "59", "60", "61", "69", "70", "99"};
        for (String number : dues) {
            GritIsIssued x = new GritIsIssued();
            int v = Integer.parseInt(number);
            due("pc0" + number + ";", tell(x, "pc0" + number + ";"), v <= 60 ? 1 : -2000);
            due("PEOPLE", x.count(0), v <= 60 ? 1 : 0);
            if (v <= 60) due("DUE", x.person(0, 3), v);
        }
        sentence("a number out of range: DUE of one of them (0 .. 60)");
        for (String number : dues) {
            GritIsIssued x = told("pc007;");
            int v = Integer.parseInt(number);
            due("u0" + number + ";", tell(x, "u0" + number + ";"), v <= 60 ? 1 : -2000);
            due("DUE", x.person(0, 3), v <= 60 ? v : 7);
        }
        sentence("a number out of range: DAYS (2 digits, 1 .. 60)");
        for (String number : dues) {
            GritIsIssued x = new GritIsIssued();
            int v = Integer.parseInt(number);
            due("d" + number + ";", tell(x, "d" + number + ";"), v >= 1 && v <= 60 ? 1 : -2000);
            due("DAY", x.count(1), v >= 1 && v <= 60 ? v : 0);
        }
        sentence("grains (2 digits); grains (3 digits)");
        due("none ISSUED", behind("pc000;", "i000;"), 1);
        due("99 ISSUED", behind("pc000;g099;", "i099;"), 1);
        due("none more", behind("", "g000;"), 1);
        due("999 more", behind("", "g999;"), 1);
    }

    private static void nobodySoFar() {
        sentence("nobody so far with that number");
        for (int one = 0; one <= 9; one++) {
            due("i", behind("", "i" + one + "00;"), -2000);
            due("r", behind("", "r" + one + ";"), -2000);
            due("u", behind("", "u" + one + "00;"), -2000);
            int want = one < 2 ? 3 : -2012;
            due("i behind two more", behind("", "pc000;pc000;i" + one + "00;"), want);
            due("r behind two more", behind("", "pc000;pc000;r" + one + ";"), want);
            due("u behind two more", behind("", "pc000;pc000;u" + one + "00;"), want);
        }
        due("he comes behind it only", behind("", "i000;pc000;"), -2000);
        due("he comes behind it only", behind("pc000;", "r1;pc000;"), -2000);
        due("he comes behind it only", behind("pc000;", "d01;u100;pc000;"), -2004);
        String eight = "pc000;pc000;pc000;pc000;pc000;pc000;pc000;pc000;";
        due("the eighth", behind(eight, "i700;r7;u700;"), 3);
        due("a ninth", behind(eight, "i800;"), -2000);
        due("a tenth", behind(eight, "r9;"), -2000);
    }

    private static void moreThanTheStoreHas() {
        sentence("more than the STORE has");
        due("just what it has", behind("pc000;g007;", "i007;"), 1);
        due("one more", behind("pc000;g007;", "i008;"), -2000);
        due("one of none", behind("pc000;", "i001;"), -2000);
        sentence("behind all ahead of it in the text: the STORE");
        due("it has them by then", behind("pc000;", "g008;i008;"), 2);
        due("it has them behind it only", behind("pc000;", "i008;g008;"), -2000);
        due("it has fewer by then", behind("pc000;pc000;g008;", "i004;i105;"), -2005);
        due("it has just so many by then", behind("pc000;pc000;g008;", "i004;i104;"), 2);
        due("what was handed in", behind("pc000;pc000;g008;i008;", "r0;i108;"), 2);
        due("handed in behind it only", behind("pc000;pc000;g008;i008;", "i108;r0;"), -2000);
    }

    private static void hasAbove() {
        sentence("HAS above 99");
        due("just 99", behind("pc000;g200;i050;", "i049;"), 1);
        due("100", behind("pc000;g200;i050;", "i050;"), -2000);
        sentence("behind all ahead of it in the text: HAS");
        due("99 by two", behind("pc000;g200;", "i060;i039;"), 2);
        due("100 by two", behind("pc000;g200;", "i060;i040;"), -2005);
        due("he handed in", behind("pc000;g200;i060;", "r0;i099;"), 2);
        due("he wore 3 by then", behind("pc501;g200;i099;", "d01;i003;"), 2);
        due("he wore no more than 3 by then", behind("pc501;g200;i099;", "d01;i004;"), -2004);
        due("another HAS none", behind("pc000;pc000;g200;i060;", "i199;"), 1);
    }

    private static void storeAbove() {
        sentence("STORE above 999");
        due("just 999", behind("g500;", "g499;"), 1);
        due("1000", behind("g500;", "g500;"), -2000);
        sentence("behind all ahead of it in the text: STORE");
        due("999 by two", behind("", "g998;g001;"), 2);
        due("1000 by two", behind("", "g998;g002;"), -2005);
        due("some were ISSUED", behind("pc000;g999;", "i010;g010;"), 2);
        due("too few were ISSUED", behind("pc000;g999;", "i010;g011;"), -2005);
        due("what is handed in is WORN, no FAULT", behind("pc000;g999;i010;g010;", "r0;"), 1);
    }

    private static void dayAbove() {
        sentence("DAY above 999");
        due("just 999", tell(onDay(939, ""), "d60;"), 1);
        due("1000", tell(onDay(940, ""), "d60;"), -2000);
        due("999", tell(onDay(998, ""), "d01;"), 1);
        due("1000", tell(onDay(999, ""), "d01;"), -2000);
        sentence("behind all ahead of it in the text: DAY");
        due("999 by two", tell(onDay(938, ""), "d60;d01;"), 2);
        due("1000 by two", tell(onDay(939, ""), "d60;d01;"), -2004);
    }

    private static void noRoomForMore() {
        sentence("no room for more");
        String seven = "pc000;pc000;pc000;pc000;pc000;pc000;pc000;";
        due("an eighth", behind(seven, "pc000;"), 1);
        due("a ninth", behind(seven + "pc000;", "pc000;"), -2000);
        sentence("behind all ahead of it in the text: room");
        due("an eighth and a ninth", behind(seven, "pc000;pc000;"), -2006);
        due("nine of nobody", behind("", seven + "pc000;pc000;"), -2048);
    }

    private static void firstOfSeveral() {
        sentence("the place of the first letter of the first STATEMENT that .. is not as it must be");
        due("the first of three", behind("", "g001;d00;r0;g999;"), -2005);
        due("the first of two", behind("", "r0;d00;"), -2000);
        due("behind each form of STATEMENT", behind("", "pc000;g009;i001;u001;r0;d01;i900;"), -2028);
        due("where it begins, not where the number stands", behind("pc000;", "d01;u061;"), -2004);
        StringBuilder text = new StringBuilder();
        for (int i = 0; i < 30; i++) text.append("r0;");
        due("the last that 96 letters can have", behind("pc000;", text + "r0;r1;"), -2093);
    }

    private static void allOrNothing() {
        sentence("Without FAULT all of it comes, with one nothing");
        String all = "g010;pm101;i109;u005;d02;r1;";
        GritIsIssued x = told("pc501;g020;i006;");
        String before = seen(x);
        due("a FAULT at its end", tell(x, all + "d00;"), -2028);
        same("nothing came", seen(x), before);
        due("a letter too few", tell(x, all.substring(0, all.length() - 1)), -1027);
        same("nothing came", seen(x), before);
        due("a letter too many", tell(x, all + "x"), -1028);
        same("nothing came", seen(x), before);
        due("without FAULT", tell(x, all), 6);
        // the MOTHER wore 3 and 3: 9, 6, 3; the CLERK's matter is in 3 DAYS
        due("PEOPLE", x.count(0), 2);
        due("STORE", x.count(2), 20 - 6 + 10 - 9 + 3);
        due("WORN", x.count(3), 6);
        due("DAY", x.count(1), 2);
        due("DUE", x.person(0, 3), 3);
        due("THROUGH", x.person(1, 4), 2);
        due("HAS of 0", x.person(0, 2), 6);
        due("HAS of 1", x.person(1, 2), 0);
    }

    private static void handsInNothing() {
        sentence("\"r\" one of them (a digit): he hands in all he HAS");
        due("all of none", behind("pc000;", "r0;"), 1);
        GritIsIssued x = told("pc000;g050;i030;");
        due("all of 30", tell(x, "r0;"), 1);
        due("STORE", x.count(2), 50);
        due("HAS", x.person(0, 2), 0);
    }

    // ---- KINDS

    private static final int[][] NEEDS = {
        {1, 2, 3, 4, 5, 6, 7, 8, 9, 10},
        {5, 6, 7, 8, 9, 10, 11, 12, 13, 14},
        {2, 4, 6, 8, 10, 12, 14, 16, 18, 20},
        {0, 1, 1, 2, 2, 3, 3, 4, 4, 5},
        {15, 16, 17, 18, 19, 20, 21, 22, 23, 24},
        {1, 1, 1, 1, 1, 1, 1, 1, 1, 1}};
    private static final int[][] WEARS = {
        {0, 1, 1, 2, 2, 3, 3, 4, 4, 5},
        {2, 3, 3, 4, 4, 5, 5, 6, 6, 7},
        {2, 4, 6, 8, 10, 12, 14, 16, 18, 20},
        {1, 1, 1, 1, 1, 1, 1, 1, 1, 1},
        {5, 5, 5, 6, 6, 6, 7, 7, 7, 8},
        {0, 0, 0, 0, 0, 0, 0, 0, 0, 0}};
    private static final String[] NEEDS_SENTENCES = {"c CLERK: FIGURE and 1", "m MOTHER under CLERK: 4 more", "h HERO under CLERK: twice",
        "t TYPIST under CLERK: half, cut", "d DIVORCED under MOTHER: 10 more", "g GIRL under TYPIST: 1"};
    private static final String[] WEARS_SENTENCES = {"c CLERK: half of what he NEEDS, cut", "m MOTHER: as a CLERK", "h HERO: all he NEEDS",
        "t TYPIST: 1", "d DIVORCED: a third, cut, of what he NEEDS", "g GIRL: 0"};
    private static final String[] NEXT_SENTENCES = {"c CLERK: 7", "m MOTHER: 1", "h HERO: 30", "t TYPIST: as a CLERK", "d DIVORCED: none (0)",
        "g GIRL under TYPIST: 1 more"};
    private static final int[] NEXT = {7, 1, 30, 7, 0, 8};

    /** One of that KIND and FIGURE, whose matter is on the next DAY, who HAS so many. */
    private static GritIsIssued who(int kind, int figure, int has) {
        return told("p" + KINDS.charAt(kind) + figure + "01;g099;i0" + has / 10 + has % 10 + ";");
    }

    private static void needs() {
        for (int kind = C; kind <= G; kind++) {
            sentence(NEEDS_SENTENCES[kind]);
            for (int figure = 0; figure <= 9; figure++) {
                int needs = NEEDS[kind][figure];
                due("NEEDS of FIGURE " + figure, who(kind, figure, 0).person(0, 6), needs);
                due("with just as many, FIGURE " + figure, who(kind, figure, needs).days(1), 1);
                if (needs > 0) due("with one fewer, FIGURE " + figure, who(kind, figure, needs - 1).days(1), 0);
            }
        }
    }

    private static void wears() {
        for (int kind = C; kind <= G; kind++) {
            sentence(WEARS_SENTENCES[kind]);
            for (int figure = 0; figure <= 9; figure++) {
                GritIsIssued x = who(kind, figure, 30);
                x.days(1);
                due("HAS then, FIGURE " + figure, x.person(0, 2), 30 - WEARS[kind][figure]);
                due("WORN, FIGURE " + figure, x.count(3), WEARS[kind][figure]);
                due("the STORE has none of them", x.count(2), 69);
                if (NEEDS[kind][figure] == 0) continue;
                GritIsIssued y = who(kind, figure, NEEDS[kind][figure] - 1);
                y.days(1);
                due("SHORT he WEARS nothing, FIGURE " + figure, y.person(0, 2), NEEDS[kind][figure] - 1);
                due("WORN, FIGURE " + figure, y.count(3), 0);
            }
        }
    }

    private static void wearsNoMoreThanHeHas() {
        sentence("what he WEARS is gone (no more than he HAS; ..)");
        // a TYPIST of FIGURE 0 NEEDS 0 and WEARS 1
        GritIsIssued none = who(T, 0, 0);
        due("THROUGH with none", none.days(1), 1);
        due("HAS", none.person(0, 2), 0);
        due("WORN", none.count(3), 0);
        GritIsIssued one = who(T, 0, 1);
        due("THROUGH with one", one.days(1), 1);
        due("HAS", one.person(0, 2), 0);
        due("WORN", one.count(3), 1);
        GritIsIssued all = who(H, 9, 20);
        due("a HERO WEARS all", all.days(1), 1);
        due("HAS", all.person(0, 2), 0);
        due("WORN", all.count(3), 20);
    }

    private static void nextMatter() {
        for (int kind = C; kind <= G; kind++) {
            sentence(NEXT_SENTENCES[kind]);
            for (int figure = 0; figure <= 9; figure += 3) {
                GritIsIssued x = who(kind, figure, 30);
                due("THROUGH", x.days(1), 1);
                due("DUE", x.person(0, 3), NEXT[kind]);
                GritIsIssued y = who(kind, figure, 0);
                y.days(1);
                due("DUE, SHORT or not", y.person(0, 3), NEXT[kind]);
            }
        }
        sentence("d DIVORCED: none (0)");
        GritIsIssued x = who(D, 0, 30);
        due("his one matter", x.days(60), 1);
        due("he has none", x.count(5), 0);
        due("SHORT", x.person(0, 5), 0);
        due("DUE", x.person(0, 3), 0);
        sentence("m MOTHER: 1");
        due("on each DAY", who(M, 0, 99).days(48), 48);
    }

    // ---- HANDED IN, a DAY

    private static void handedIn() {
        sentence("HANDED IN: all one HAS goes to the STORE (999 at most, what is above is WORN)");
        GritIsIssued x = told("pc000;g099;i020;g919;");
        due("STORE 998 and 20", x.returns(0), 999);
        due("HAS", x.person(0, 2), 0);
        due("WORN", x.count(3), 19);
        GritIsIssued just = told("pc000;g099;i020;g900;");
        due("STORE 979 and 20", just.returns(0), 999);
        due("WORN", just.count(3), 0);
        GritIsIssued below = told("pc000;g099;i020;g899;");
        due("STORE 978 and 20", below.returns(0), 998);
        due("WORN", below.count(3), 0);
        GritIsIssued told = told("pc000;g099;i020;g919;");
        due("told", tell(told, "r0;"), 1);
        due("STORE", told.count(2), 999);
        due("WORN", told.count(3), 19);
        sentence("WORN, 9999 at most");
        GritIsIssued full = wornBut(1);
        due("9998 and 50", full.returns(1), 999);
        due("WORN", full.count(3), 9999);
        due("HAS", full.person(1, 2), 0);
        GritIsIssued one = wornBut(1);
        one.returns(1);
        one.issues(0, 1);
        one.fills(1);
        due("9999 and 1", one.returns(0), 999);
        due("WORN", one.count(3), 9999);
        GritIsIssued letters = wornBut(1);
        due("9998 and 50, told", tell(letters, "r1;"), 1);
        due("WORN", letters.count(3), 9999);
        GritIsIssued exact = wornBut(50);
        due("9949 and 50", exact.returns(1), 999);
        due("WORN", exact.count(3), 9999);
    }

    private static void aDay() {
        sentence("A DAY: DAY is 1 more");
        GritIsIssued nobody = new GritIsIssued();
        due("of nobody", nobody.days(1), 0);
        due("DAY", nobody.count(1), 1);
        due("told", tell(nobody, "d01;"), 1);
        due("DAY", nobody.count(1), 2);
        sentence("DUE 1 less; at 0: ..");
        GritIsIssued x = told("pc002;pc003;g009;i001;i101;");
        due("at 1 nothing yet", x.days(1), 0);
        due("DUE", x.person(0, 3), 1);
        due("at 0", x.days(1), 1);
        due("DUE of the other", x.person(1, 3), 1);
        due("DUE is his next", x.person(0, 3), 7);
        due("the other at 0", x.days(1), 1);
        due("7 DAYS behind the first", x.days(5), 0);
        due("7 DAYS behind the first", x.days(1), 1);
        sentence("each who has a matter");
        GritIsIssued few = told("pm000;pm001;pm000;pm002;g099;i009;i109;i209;i309;");
        due("two DAYS", few.days(2), 3);
        due("THROUGH of 1", few.person(1, 4), 2);
        due("THROUGH of 3", few.person(3, 4), 1);
        due("HAS of 0", few.person(0, 2), 9);
        due("SHORT of 2", few.person(2, 5), 0);
    }

    private static void justEnough() {
        sentence("if he HAS what he NEEDS or more, he is THROUGH (1 more, ..) .. else SHORT (1 more, ..)");
        int[] has = {0, 5, 6, 7, 99};
        for (int grains : has) {
            GritIsIssued x = who(C, 5, grains);
            due("THROUGH more with " + grains, x.days(1), grains >= 6 ? 1 : 0);
            due("THROUGH", x.person(0, 4), grains >= 6 ? 1 : 0);
            due("SHORT", x.person(0, 5), grains >= 6 ? 0 : 1);
        }
    }
}
