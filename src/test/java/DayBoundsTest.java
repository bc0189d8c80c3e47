/**
 * Part II of "Terms" and promises 6 to 13 and 41 to 43: each sentence of the document that names a boundary has a test
 * of its own here, with that sentence ahead of it.
 */
public final class DayBoundsTest {
    private static final Check CHECK = new Check();
    private static final int MIN = Integer.MIN_VALUE;
    private static final int MAX = Integer.MAX_VALUE;
    private static final String LINE = Samples.LINE;
    private static final String ROUND = Samples.ROUND;
    private static final String ALL_LIE = Samples.ALL_LIE;
    private static final String SIX = Samples.SIX;

    public static void main(String[] args) throws ReflectiveOperationException {
        CHECK.runAll(DayBoundsTest.class);
    }

    /** What a law tells of a person of HONEST 4 whose FAR is 30, alone in the CAPITAL. */
    private static int law(String law, String e) {
        NoonRinger x = Check.of("town a; town b; road a b 30; person p 4 b a; claims = 1;" + law + " = " + e + ";");
        return x.person(0, law.equals("claims") ? 9 : law.equals("strokes") ? 10 : law.equals("gifts") ? 11 : 12);
    }

    private static void claims(String e, int due) {
        CHECK.due("claims = " + e, law("claims", e), due);
    }

    private static void daysGoBy(NoonRinger x, int n) {
        int left = n;
        for (; left > 60; left -= 60) {
            x.days(60);
        }
        x.days(left);
    }

    // ---- Terms, part II: FAR and the laws ----

    /** Terms II: "FAR of two TOWNS: the fewest miles by open ROADS". */
    static void farIsTheFewestMilesByOpenRoads() {
        NoonRinger x = Check.of("town a; town b; road a b 9; road b a 5; road a b 7;");
        CHECK.due("of three roads", x.far(0, 1), 5);
        CHECK.due("back", x.far(1, 0), 5);
        x.close(1, true);
        CHECK.due("of two", x.far(0, 1), 7);
        CHECK.due("one and the same", x.far(1, 1), 0);
        x = Check.of("town a; town b; town c; road a c 12; road a b 5; road b c 6;");
        CHECK.due("by b", x.far(0, 2), 11);
        x = Check.of(ROUND);
        CHECK.due("the short way round", x.far(0, 3), 297);
        CHECK.due("the other one", x.far(4, 0), 297);
        x.close(6, true);
        CHECK.due("the farthest that can be", x.far(0, 6), 594);
        CHECK.due("claimed and no lie", Check.of(ROUND.replace("road g a 99;", "") + "person p 0 g a;").liars(), 0);
    }

    /** Terms II: "(none: 999)". */
    static void farIs999WithoutAWay() {
        NoonRinger x = Check.of("town a; town b; person p 0 b a;");
        CHECK.due("no road", x.far(0, 1), 999);
        CHECK.due("no road", x.town(1, 3), 999);
        CHECK.due("far in a law", x.person(0, 9), 999);
        x = Check.of("town a; town b; town c; road a b 99; road b c 1;");
        x.close(0, true);
        CHECK.due("closed", x.far(0, 1), 999);
        CHECK.due("not 999 and 1 more", x.far(0, 2), 999);
        CHECK.due("open", x.far(1, 2), 1);
        x.close(0, false);
        CHECK.due("opened", x.far(0, 2), 100);
    }

    /** Terms II: "LAWS: the E of the first if that holds (one less than the other), else the last one". */
    static void theFirstIfThatHolds() {
        claims("if 4 < 5 then 1 else 2", 1);
        claims("if 5 < 5 then 1 else 2", 2);
        claims("if 6 < 5 then 1 else 2", 2);
        claims("if 0 - 1 < 0 then 1 else 2", 1);
        claims("if 0 < 0 - 1 then 1 else 2", 2);
        claims("if 1 < 2 then 1 else if 1 < 2 then 3 else 4", 1);
        claims("if 2 < 1 then 1 else if 1 < 2 then 3 else if 1 < 2 then 4 else 5", 3);
        claims("if 2 < 1 then 1 else if 2 < 1 then 2 else if 2 < 1 then 3 else if 1 < 2 then 4 else 5", 4);
        claims("if 2 < 1 then 1 else if 2 < 1 then 2 else if 2 < 1 then 3 else if 2 < 1 then 4 else 5", 5);
    }

    /** Terms II: "ints of 32 bits that wrap". */
    static void intsWrap() {
        String most = "(2147 * 1000 * 1000 + 483 * 1000 + 647)";
        claims("if 0 < " + most + " then 5 else 6", 5);
        claims("if " + most + " + 1 < 0 then 5 else 6", 5);
        claims("if 0 - " + most + " - 1 < 0 then 5 else 6", 5);
        claims("if 0 - " + most + " - 2 < 0 then 5 else 6", 6);
        claims("if " + most + " < " + most + " + 1 then 5 else 6", 6);
        claims("if 0 - " + most + " - 1 < " + most + " then 5 else 6", 5);
        // 9999 * 9999 * 43 is 4299140043, and 4294967296 less is 4172747
        claims("9999 * 9999 * 43 - 4172 * 1000", 747);
        claims("8192 * 8192 * 64", 0);
        claims("8192 * 8192 * 64 + 7", 7);
        // the least int by -1 is the least int again
        claims("if 8192 * 8192 * 32 / (0 - 1) < 0 then 5 else 6", 5);
        claims("8192 * 8192 * 32 / (0 - 1) / (0 - 8192 * 8192) + 3", 35);
    }

    /**
     * Terms I: "PART {('+' | '-') PART}", "UNIT {('*' | '/') UNIT}" and "a 7th ( within one another": what * and /
     * join comes first, from left to right, in all of six brackets, too.
     */
    static void partsComeAheadOfSums() {
        claims("2 + 3 * 4", 14);
        claims("2 * 3 + 4", 10);
        claims("(2 + 3) * 4", 20);
        claims("20 - 3 - 4", 13);
        claims("20 - (3 - 4)", 21);
        claims("20 - 3 + 4", 21);
        claims("100 / 7 / 2", 7);
        claims("100 / 7 * 7", 98);
        claims("100 * 7 / 7", 100);
        claims("100 - 20 / 3 * 2 - 1", 87);
        String sixDeep = "1 + 2 * (1 + 2 * (1 + 2 * (1 + 2 * (1 + 2 * (1 + 2 * (1 + 2 * ";
        claims(sixDeep + "3))))))", 511);
        claims(sixDeep + "0))))))", 127);
        claims(sixDeep + "7)))))) - 1000 - (3 - (3 - (3 - (3 - (3 - (3 - 1))))))", 22);
        claims("if " + sixDeep + "3)))))) < " + sixDeep + "4)))))) then 5 else 6", 5);
        claims("if " + sixDeep + "4)))))) < " + sixDeep + "4)))))) then 5 else " + sixDeep + "2))))))", 383);
    }

    /** Terms I: "a 401st TOKEN": a LAW as long as can be, of a text of 400 TOKENS, is told to its end. */
    static void aLawOf400Tokens() {
        String ahead = "town a; person p 1 a a; claims = ";
        CHECK.due("of 399 tokens", Check.of(ahead + "3" + " + 1".repeat(193) + ";").person(0, 9), 196);
        CHECK.due("of 400", Check.of(ahead + "if 1 < 2 then 3 else 4" + " + 1".repeat(190) + ";").person(0, 9), 3);
        CHECK.due("of 400", Check.of(ahead + "if 2 < 1 then 3 else 4" + " + 1".repeat(190) + ";").person(0, 9), 194);
        CHECK.due("of 400", Check.of(ahead + "if 2" + " + 1".repeat(190) + " < 193 then 3 else 4;").person(0, 9), 3);
        CHECK.due("of 400", Check.of(ahead + "if 2" + " + 1".repeat(190) + " < 192 then 3 else 4;").person(0, 9), 4);
        String many = "strokes=2;".repeat(96);
        CHECK.due("the last of many laws", Check.of("town a; person p 1 a a; " + many + "gifts=7;").person(0, 11), 7);
        CHECK.due("that ahead of it", Check.of("town a; person p 1 a a; " + many + "gifts=7;").person(0, 10), 2);
        CHECK.due("that not told", Check.of("town a; person p 1 a a; " + many + "gifts=7;").person(0, 12), 0);
    }

    /** Terms II: "/ rounded towards 0". */
    static void divisionIsRoundedTowards0() {
        claims("7 / 2", 3);
        claims("8 / 3", 2);
        claims("7 / 1", 7);
        claims("7 / 7", 1);
        claims("6 / 7", 0);
        claims("1 / 2", 0);
        claims("0 / 5", 0);
        claims("(0 - 7) / 2 + 9", 6);
        claims("7 / (0 - 2) + 9", 6);
        claims("(0 - 7) / (0 - 2)", 3);
        claims("(0 - 1) / 2 + 9", 9);
        claims("1 / (0 - 9999) + 9", 9);
    }

    /** Terms II: "a LAW in which something that is looked at is divided by 0 is 0". */
    static void aLawDividedBy0Is0() {
        for (String law : new String[] {"claims", "strokes", "gifts", "doubts"}) {
            CHECK.due(law + " at once", law(law, "7 / 0"), 0);
            CHECK.due(law + " of 0", law(law, "0 / 0 + 7"), 0);
            CHECK.due(law + " in what is times 0", law(law, "7 + 0 * (1 / (far - 30))"), 0);
            CHECK.due(law + " by 1", law(law, "7 + 0 * (1 / (far - 29))"), 7);
            CHECK.due(law + " on the left of <", law(law, "if 1 / 0 < 5 then 7 else 8"), 0);
            CHECK.due(law + " on the right of <", law(law, "if 5 < 1 / 0 then 7 else 8"), 0);
            CHECK.due(law + " in a later if", law(law, "if 2 < 1 then 7 else if 1 / 0 < 5 then 8 else 9"), 0);
            CHECK.due(law + " in what holds", law(law, "if 1 < 2 then 7 / 0 else 8"), 0);
            CHECK.due(law + " in the last one", law(law, "if 2 < 1 then 7 else 8 / 0"), 0);
        }
    }

    /** Terms II: "something that is looked at": a division by 0 that is not looked at does nothing. */
    static void whatIsNotLookedAtIsNotDivided() {
        claims("if 1 < 2 then 7 else 1 / 0", 7);
        claims("if 2 < 1 then 1 / 0 else 7", 7);
        claims("if 1 < 2 then 7 else if 1 / 0 < 5 then 8 else 9", 7);
        claims("if 2 < 1 then 1 / 0 else if 1 < 2 then 7 else 1 / 0", 7);
        CHECK.due("of another law", law("strokes", "claim + 3"), 4);
        NoonRinger x = Check.of("town a; person p 5 a a; claims = 1 / 0; strokes = claim + 3; gifts = 4;");
        CHECK.due("claims", x.person(0, 9), 0);
        CHECK.due("claim in strokes", x.person(0, 10), 3);
        CHECK.due("gifts", x.person(0, 11), 4);
    }

    /** Terms II: "far: FAR from their HOME to the CAPITAL", wherever they are. */
    static void farIsFromHomeToTheCapital() {
        NoonRinger x = Check.of(LINE + "capital b;");
        CHECK.due("p is at home in the capital", x.person(0, 8), 0);
        CHECK.due("q", x.person(1, 8), 7);
        CHECK.due("r", x.person(2, 8), 5);
        CHECK.due("claims of p, who is at a", x.person(0, 9), 0);
        CHECK.due("claims of q, who is at a", x.person(1, 9), 7);
        CHECK.due("claims of r, who is there", x.person(2, 9), 5);
        x.send(1, 2);
        x.days(2);
        CHECK.due("claims of q at home", x.person(1, 9), 7);
        x.close(1, true);
        CHECK.due("no way", x.person(1, 8), 999);
    }

    /** Terms II: "walked: miles they went since they were at HOME last". */
    static void walkedIsSinceHome() {
        NoonRinger x = Check.of(LINE + "strokes = walked;");
        x.send(2, 2);
        x.days(1);
        CHECK.due("7 though never at home", x.person(2, 4), 7);
        CHECK.due("in a law", x.person(2, 10), 7);
        x.send(2, 1);
        x.days(1);
        CHECK.due("and 7 back", x.person(2, 4), 14);
        x.days(3);
        CHECK.due("who stays walks no more", x.person(2, 4), 14);
        x.send(0, 2);
        x.days(2);
        CHECK.due("p came by home", x.person(0, 4), 7);
    }

    /** Terms II: "(at HOME: 0)". */
    static void walkedIs0AtHome() {
        NoonRinger x = Check.of(LINE);
        CHECK.due("nobody walked at first", x.person(0, 4) + x.person(2, 4), 0);
        x.send(0, 1);
        x.days(1);
        CHECK.due("p at home", x.person(0, 4), 0);
        x.send(0, 0);
        x.days(1);
        CHECK.due("p from home", x.person(0, 4), 5);
        x.send(1, 2);
        x.days(1);
        CHECK.due("q on the way home", x.person(1, 4), 5);
        x.days(1);
        CHECK.due("q at home", x.person(1, 4), 0);
    }

    /** Terms II: "rung: how often they rang; day; which: their number". */
    static void rungDayAndWhich() {
        NoonRinger x = Check.of("town a; person p 0 a a; person q 0 a a; claims = which * 10; strokes = rung * 100 + day;");
        CHECK.due("which 0", x.person(0, 9), 0);
        CHECK.due("which 1", x.person(1, 9), 10);
        CHECK.due("at first", x.person(1, 10), 0);
        x.days(3);
        CHECK.due("p did not ring", x.person(0, 10), 3);
        CHECK.due("q rang 3 times", x.person(1, 10), 303);
        CHECK.due("which 5", Check.of("town a;" + SIX + "claims = which;").person(5, 9), 5);
    }

    /** Terms II: "there: how many PEOPLE are in the CAPITAL". */
    static void thereCountsPeopleInTheCapital() {
        CHECK.due("nobody", Check.of("town a; town b; person p 0 b b; claims = there;").person(0, 9), 0);
        CHECK.due("all six", Check.of("town a;" + SIX + "claims = there;").person(5, 9), 6);
        NoonRinger x = Check.of(LINE + "claims = there;");
        CHECK.due("of one who is not", x.person(2, 9), 2);
        x.send(0, 1);
        CHECK.due("who goes is there still", x.person(0, 9), 2);
        x.days(1);
        CHECK.due("who went is not", x.person(0, 9), 1);
        x = Check.of(ALL_LIE + "strokes = there;");
        x.days(2);
        CHECK.due("both are barred", x.count(6), 3);
        CHECK.due("and there", x.person(0, 10), 2);
    }

    /** Terms II: "purse: what they have". */
    static void purseIsWhatTheyHave() {
        NoonRinger x = Check.of("town a; person p 0 a a; person q 0 a a; gifts = 7; strokes = purse;");
        CHECK.due("at first", x.person(0, 10), 0);
        x.days(2);
        CHECK.due("14", x.person(0, 10), 14);
        CHECK.due("of the other", x.person(1, 10), 0);
    }

    /** Terms II: "claim: what CLAIMS tells". That is held to 0 .. 999. */
    static void claimIsWhatClaimsTells() {
        NoonRinger x = Check.of("town a; person p 0 a a; claims = 5000; strokes = claim - 900;"
            + " gifts = claim - 950; doubts = claim - 989;");
        CHECK.due("in strokes", x.person(0, 10), 99);
        CHECK.due("in gifts", x.person(0, 11), 49);
        CHECK.due("in doubts", x.person(0, 12), 10);
        x = Check.of("town a; person p 0 a a; claims = 0 - 5; strokes = claim + 3; gifts = claim + 4; doubts = claim + 5;");
        CHECK.due("in strokes", x.person(0, 10), 3);
        CHECK.due("in gifts", x.person(0, 11), 4);
        CHECK.due("in doubts", x.person(0, 12), 5);
    }

    /** Terms II: "(in CLAIMS: 0)". */
    static void claimInClaimsIs0() {
        NoonRinger x = Check.of("town a; person p 3 a a; person q 5 a a; claims = claim * 100 + honest; strokes = claim;");
        CHECK.due("claims of p", x.person(0, 9), 3);
        CHECK.due("strokes of q", x.person(1, 10), 5);
        CHECK.due("claims of p behind another law", x.person(0, 9), 3);
        x.days(2);
        CHECK.due("claims of q behind noons", x.person(1, 9), 5);
    }

    /** Terms II: "CLAIMS, STROKES, held to 0 .. 999, GIFTS to 0 .. 99, DOUBTS to 0 .. 100." */
    static void lawsAreHeld() {
        String[] laws = {"claims", "strokes", "gifts", "doubts"};
        int[] most = {999, 999, 99, 100};
        for (int i = 0; i < 4; i++) {
            CHECK.due(laws[i] + " below 0", law(laws[i], "0 - 1"), 0);
            CHECK.due(laws[i] + " far below 0", law(laws[i], "8192 * 8192 * 32"), 0);
            CHECK.due(laws[i] + " of 0", law(laws[i], "0"), 0);
            CHECK.due(laws[i] + " of 1", law(laws[i], "1"), 1);
            CHECK.due(laws[i] + " of one less", law(laws[i], "" + (most[i] - 1)), most[i] - 1);
            CHECK.due(laws[i] + " of the most", law(laws[i], "" + most[i]), most[i]);
            CHECK.due(laws[i] + " of one more", law(laws[i], "" + (most[i] + 1)), most[i]);
            CHECK.due(laws[i] + " of many more", law(laws[i], "8192 * 8192 * 31"), most[i]);
        }
    }

    // ---- Terms, part II: lots and noons ----

    /** Whether the only one in the CAPITAL, who lies, is found out at the noon of a day, not being doubted ahead of it. */
    private static boolean isFoundOut(int seed, int day, int who, int doubts) {
        StringBuilder text = new StringBuilder("town a; town b; ");
        for (int i = 0; i < 6; i++) {
            text.append("person p").append((char) ('a' + i)).append(i == who ? " 0 a a; " : " 0 a b; ");
        }
        NoonRinger x = Check.of(text + "claims = 1; seed " + seed + ";"
            + " doubts = if day < " + day + " then 0 else " + doubts + ";");
        daysGoBy(x, day);
        CHECK.due("nobody is barred ahead of day " + day, x.count(6), 0);
        x.days(1);
        boolean found = x.count(6) == 1 << who;
        CHECK.due("who is found out does not ring", x.person(who, 5), found ? day : day + 1);
        return found;
    }

    /**
     * Terms II: "it is found out if they LIE and LOT 100 of the SEED and 8 * the day and their number is less than DOUBTS".
     * The lots, from 0 to 99, were reckoned apart from the class: seed, day, number, LOT.
     */
    static void foundOutBelowDoubts() {
        int[][] lots = {{0, 0, 0, 81}, {0, 0, 5, 49}, {0, 1, 0, 54}, {7, 3, 4, 77}, {9999, 59, 5, 17}, {1234, 17, 2, 16},
            {4321, 60, 3, 23}, {5, 8, 0, 62}, {77, 31, 1, 97}, {2, 0, 5, 0}, {18, 1, 1, 0}, {7, 0, 1, 99}, {28, 1, 0, 99},
            {50, 200, 2, 59}, {8, 9001, 3, 87}};
        for (int[] lot : lots) {
            String which = "seed " + lot[0] + ", day " + lot[1] + ", person " + lot[2] + ", doubts ";
            CHECK.due(which + lot[3], isFoundOut(lot[0], lot[1], lot[2], lot[3]), false);
            CHECK.due(which + (lot[3] + 1), isFoundOut(lot[0], lot[1], lot[2], lot[3] + 1), true);
        }
        CHECK.due("doubts 0", isFoundOut(2, 0, 5, 0), false);
        CHECK.due("doubts 100", isFoundOut(7, 0, 1, 100), true);
    }

    /**
     * Terms II: "then h and h moved 15 bits down (zeros come in), likewise; the rest of h, moved 1 bit down likewise, by n
     * (32 bits that wrap)." The highest bit of h is set each time, the first time, the latter times, or never.
     */
    static void theLotIsOf32BitsAndZerosComeIn() {
        int[][] lots = {{1, 0, 56}, {5, 1, 19}, {12, 0, 77}, {17, 0, 4}, {1, 1, 23}, {2, 0, 31}, {3, 0, 63}, {4, 1, 24},
            {3, 1, 24}, {0, 1, 36}};
        for (int[] lot : lots) {
            CHECK.due("seed " + lot[0] + ", person " + lot[1], isFoundOut(lot[0], 0, lot[1], lot[2]), false);
            CHECK.due("seed " + lot[0] + ", person " + lot[1], isFoundOut(lot[0], 0, lot[1], lot[2] + 1), true);
        }
    }

    /** Terms II: "if they LIE": who does not is never found out, nor is who is not the RINGER. */
    static void onlyARingerWhoLiesIsFoundOut() {
        NoonRinger x = Check.of(LINE + "doubts = 100;");
        x.days(60);
        CHECK.due("nobody lies", x.count(6), 0);
        CHECK.due("they rang", x.count(13), 60);
        x = Check.of(LINE + "doubts = 100; claims = if which < 1 then 6 else far;");
        CHECK.due("p lies", x.liars(), 1);
        x.days(60);
        CHECK.due("but does not ring", x.count(6), 0);
    }

    /** Terms II: "The RINGER: of PEOPLE in the CAPITAL": one elsewhere does not ring, whatever they claim. */
    static void theRingerIsInTheCapital() {
        NoonRinger x = Check.of("town a; town b; road a b 5; person p 0 b b; person q 0 a a;");
        CHECK.due("q", x.ringer(), 1);
        x.send(0, 0);
        CHECK.due("q still", x.ringer(), 1);
        x.days(1);
        CHECK.due("p is there", x.ringer(), 0);
        CHECK.due("in another capital", Check.of("town a; town b; person p 0 b b; person q 0 a a; capital b;").ringer(), 0);
    }

    /** Terms II: "who are not BARRED". */
    static void theRingerIsNotBarred() {
        NoonRinger x = Check.of(ALL_LIE);
        CHECK.due("q", x.ringer(), 1);
        x.days(1);
        CHECK.due("q is barred", x.ringer(), 0);
        x.days(1);
        CHECK.due("both are", x.ringer(), -2);
        x.admit(1);
        CHECK.due("q is let in", x.ringer(), 1);
    }

    /** Terms II: "who CLAIMS most, of alike ones the first". */
    static void ofAlikeOnesTheFirstRings() {
        CHECK.due("alike", Check.of("town a; person p 0 a a; person q 0 a a; claims = 3;").ringer(), 0);
        CHECK.due("of the latter two", Check.of("town a; person p 1 a a; person q 2 a a; person r 2 a a;"
            + " claims = honest;").ringer(), 1);
        CHECK.due("1 more", Check.of("town a; person p 1 a a; person q 2 a a; claims = honest;").ringer(), 1);
        CHECK.due("all claim 0", Check.of("town a; person p 1 a a; person q 2 a a; claims = 0;").ringer(), 0);
        CHECK.due("as claims are held", Check.of("town a; person p 1 a a; person q 2 a a;"
            + " claims = 998 + honest;").ringer(), 0);
        CHECK.due("and not below 0", Check.of("town a; person p 1 a a; person q 2 a a; claims = honest - 2;").ringer(), 0);
        CHECK.due("one who is not there", Check.of("town a; town b; person p 2 a b; person q 1 a a;"
            + " person r 1 a a; claims = honest;").ringer(), 1);
    }

    /** Terms II: "nobody, if there is none." */
    static void nobodyIsRingerIfThereIsNone() {
        CHECK.due("no people", Check.of("town a;").ringer(), -2);
        CHECK.due("elsewhere", Check.of("town a; town b; person p 0 a b;").ringer(), -2);
        NoonRinger x = Check.of("town a; person p 0 a a; claims = 1; doubts = 100;");
        x.days(1);
        CHECK.due("barred", x.ringer(), -2);
        x.days(1);
        CHECK.due("nobody rang", x.count(4), -2);
        CHECK.due("the day goes by", x.count(3), 2);
    }

    /** Terms II: "A LIE: a CLAIM that is not far." */
    static void aLieIsAClaimThatIsNotFar() {
        String two = "town a; town b; road a b 30; person p 0 b a; claims = ";
        CHECK.due("29", Check.of(two + "29;").liars(), 1);
        CHECK.due("30", Check.of(two + "30;").liars(), 0);
        CHECK.due("31", Check.of(two + "31;").liars(), 1);
        CHECK.due("0 for 0", Check.of("town a; person p 0 a a; claims = 0 - 5;").liars(), 0);
        CHECK.due("999 for 999", Check.of("town a; town b; person p 0 b a; claims = far + 1;").liars(), 0);
        CHECK.due("998 for 999", Check.of("town a; town b; person p 0 b a; claims = far - 1;").liars(), 1);
    }

    /** Terms II: "then they are BARRED, nobody rings". */
    static void whoIsFoundOutIsBarredAndNobodyRings() {
        NoonRinger x = Check.of(ALL_LIE + "gifts = if day < 1 then 9 else 7; strokes = 6;");
        x.days(1);
        CHECK.due("q is barred", x.person(1, 7), 1);
        CHECK.due("p is not", x.person(0, 7), 0);
        CHECK.due("nobody rang, not p either", x.count(4), -2);
        CHECK.due("no strokes", x.count(5), 0);
        CHECK.due("not rung", x.count(13), 0);
        CHECK.due("no gifts", x.count(14), 0);
        CHECK.due("the next day", x.count(3), 1);
        x = Check.of("town a; person p 0 a a; claims = if day < 1 then far else 5; doubts = 100; strokes = 6;");
        x.days(1);
        CHECK.due("p rang", x.count(4) * 100 + x.count(5), 6);
        x.days(1);
        CHECK.due("then nobody", x.count(4), -2);
        CHECK.due("so that those of the day ahead are not kept", x.count(5), 0);
    }

    /** Terms II: "else they ring: STROKES as often, GIFTS more in their PURSE". 0 of both, too. */
    static void whoRingsStrikesAndIsGiven() {
        NoonRinger x = Check.of(LINE + "strokes = 0; gifts = 0;");
        x.days(1);
        CHECK.due("who rang", x.count(4), 1);
        CHECK.due("strokes", x.count(5), 0);
        CHECK.due("rung", x.person(1, 5), 1);
        CHECK.due("purse", x.person(1, 6), 0);
        x = Check.of(LINE + "strokes = 999; gifts = 99;");
        x.days(2);
        CHECK.due("strokes, of one noon", x.count(5), 999);
        CHECK.due("rung", x.person(1, 5), 2);
        CHECK.due("purse", x.person(1, 6), 198);
        CHECK.due("others", x.person(0, 5) + x.person(0, 6) + x.person(2, 5) + x.person(2, 6), 0);
    }

    /** Terms II: "(99,999 at most)". */
    static void purseHolds99999AtMost() {
        NoonRinger x = Check.of("town a; person p 0 a a; person q 0 a a; gifts = 99;");
        daysGoBy(x, 1010);
        CHECK.due("1,010 times 99", x.person(0, 6), 99990);
        x.days(1);
        CHECK.due("not 100,089", x.person(0, 6), 99999);
        x.days(60);
        CHECK.due("full", x.person(0, 6), 99999);
        CHECK.due("they rang all the same", x.person(0, 5), 1071);
        x = Check.of("town a; person p 0 a a; "
            + "gifts = if purse < 9999 * 10 then 99 else if purse < 9999 * 10 + 8 then 8 else 1;");
        daysGoBy(x, 1011);
        CHECK.due("99,998", x.person(0, 6), 99998);
        x.days(1);
        CHECK.due("99,999", x.person(0, 6), 99999);
        x.days(1);
        CHECK.due("99,999 still", x.person(0, 6), 99999);
    }

    /** Terms II: "NOON, all by how it was as it began". */
    static void allOfANoonIsByHowItBegan() {
        NoonRinger x = Check.of("town a; town b; road a b 5; person p 3 b a; person q 9 a b;"
            + "strokes = 100 * rung + 10 * day + there + purse; gifts = 2 + rung + there;");
        x.send(0, 1);
        x.send(1, 0);
        x.days(1);
        CHECK.due("p who goes rings", x.count(4), 0);
        CHECK.due("strokes by rung 0, day 0, one there, nothing in the purse", x.count(5), 1);
        CHECK.due("gifts by rung 0, one there", x.person(0, 6), 3);
        CHECK.due("q who comes does not ring yet", x.person(1, 5), 0);
        x.days(1);
        CHECK.due("q rings then", x.count(4), 1);
        CHECK.due("strokes by rung 0, day 1, one there", x.count(5), 11);
        x.days(1);
        CHECK.due("strokes by rung 1, day 2, one there, 3 in the purse", x.count(5), 124);
    }

    // ---- Terms, part II: who goes ----

    /** Terms II: "Then each PERSON who goes walks one ROAD". The barred ones and all others, too, one a day. */
    static void eachWhoGoesWalksOneRoadADay() {
        NoonRinger x = Check.of(ALL_LIE + "town c; road b c 2; person r 0 c c;");
        x.send(0, 2);
        x.send(1, 2);
        x.send(2, 0);
        x.days(1);
        CHECK.due("all three are at b, q who was barred, too", x.town(1, 2) * 10 + x.count(6), 72);
        x.days(1);
        CHECK.due("two at c", x.town(2, 2), 3);
        CHECK.due("one at a", x.town(0, 2), 4);
        CHECK.due("nobody goes", x.count(15), 0);
        x.days(5);
        CHECK.due("who does not go stays", x.town(2, 2), 3);
    }

    /** Terms II: "that of which its miles and FAR from its other end to where they go, added, are fewest". */
    static void theyWalkTheRoadOfFewestMiles() {
        NoonRinger x = Check.of("town a; town b; town c; road a b 10; road a c 4; road c b 5; person p 0 a a;");
        x.send(0, 1);
        CHECK.due("by c, 4 + 5", x.walks(0), 1);
        x = Check.of("town a; town b; town c; road a b 9; road a c 4; road c b 6; person p 0 a a;");
        x.send(0, 1);
        CHECK.due("at once, 9", x.walks(0), 0);
        x = Check.of("town a; town b; road a b 9; road b a 8; person p 0 a a;");
        x.send(0, 1);
        x.days(1);
        CHECK.due("at b, by 8 of two", x.person(0, 2) * 10 + x.person(0, 4), 18);
        x = Check.of("town a; town b; road a b 9; road b a 8; person p 0 b a;");
        x.send(0, 1);
        CHECK.due("8 of two", x.walks(0), 1);
        x.close(1, true);
        CHECK.due("the open one", x.walks(0), 0);
    }

    /** Terms II: "of alike ones the first". */
    static void ofAlikeRoadsTheFirst() {
        NoonRinger x = Check.of("town a; town b; town c; road a c 4; road a b 9; road c b 5; road a b 9; person p 0 a a;");
        x.send(0, 1);
        CHECK.due("by c", x.walks(0), 0);
        x.days(1);
        CHECK.due("at c", x.person(0, 2), 2);
        x = Check.of("town a; town b; town c; road b a 9; road a c 4; road c b 5; road a b 9; person p 0 a a;");
        x.send(0, 1);
        CHECK.due("at once", x.walks(0), 0);
        x.close(0, true);
        CHECK.due("by c", x.walks(0), 1);
        x.close(1, true);
        CHECK.due("by the last one", x.walks(0), 3);
    }

    /** Terms II: "(none by which FAR is below 999: they stay)". They go on as soon as there is one. */
    static void whereNoRoadLeadsTheyStay() {
        NoonRinger x = Check.of(LINE);
        x.close(1, true);
        x.send(0, 2);
        CHECK.due("no road, though one is open", x.walks(0), -2);
        x.days(3);
        CHECK.due("p stays", x.person(0, 2), 0);
        CHECK.due("p goes still", x.person(0, 3), 2);
        CHECK.due("p has not walked", x.person(0, 4), 0);
        x.close(1, false);
        x.days(1);
        CHECK.due("p is on the way", x.person(0, 2), 1);
        x.close(1, true);
        x.days(9);
        CHECK.due("p stays on the way", x.person(0, 2), 1);
        x.close(1, false);
        x.days(1);
        CHECK.due("p comes there", x.person(0, 2), 2);
        x = Check.of(ROUND + "person p 0 a a;");
        x.close(6, true);
        x.send(0, 6);
        CHECK.due("594 miles are a way", x.walks(0), 0);
    }

    /** Terms II: "they come there; who is where they go goes no more." */
    static void whoIsWhereTheyGoGoesNoMore() {
        NoonRinger x = Check.of(LINE);
        x.send(0, 2);
        x.days(1);
        CHECK.due("not there yet", x.person(0, 3), 2);
        CHECK.due("goes", x.count(15), 1);
        x.days(1);
        CHECK.due("there", x.person(0, 2), 2);
        CHECK.due("goes nowhere", x.person(0, 3), -2);
        CHECK.due("nobody goes", x.count(15), 0);
        CHECK.due("so that they can be sent back", x.send(0, 0), true);
    }

    /** Terms II: "Who comes HOME has walked 0 miles." On the way, too. */
    static void whoComesHomeHasWalked0Miles() {
        NoonRinger x = Check.of(LINE);
        x.send(1, 1);
        x.days(1);
        CHECK.due("q at b", x.person(1, 4), 5);
        x.send(1, 2);
        x.days(1);
        CHECK.due("q at c, which is home", x.person(1, 4), 0);
        x.send(0, 2);
        x.days(1);
        CHECK.due("p at home on the way", x.person(0, 4), 0);
        CHECK.due("p goes on", x.person(0, 3), 2);
        x.days(1);
        CHECK.due("p behind it", x.person(0, 4), 7);
    }

    /** Terms II: "DAYS are counted on." and "It is the next day." Also where nobody rings, nobody is. */
    static void itIsTheNextDay() {
        NoonRinger x = new NoonRinger();
        CHECK.due("no towns", x.days(1), 1);
        x = Check.of(LINE);
        CHECK.due("day 0", x.count(3), 0);
        for (int day = 1; day < 5; day++) {
            CHECK.due("the next one", x.days(1), day);
        }
        CHECK.due("by hand nothing of it", x.send(0, 1), true);
        CHECK.due("the same day", x.count(3), 4);
    }

    // ---- Promises 6 to 8 ----

    /**
     * Promise 6: "what 0: 1 it is the CAPITAL, else 0, 1 open ROADS (bits), 2 who is there (bits), 3 FAR to the
     * CAPITAL."
     */
    static void townTellsOfATown() {
        NoonRinger x = Check.of(LINE);
        int[][] due = {{1, 1, 3, 0}, {0, 3, 4, 5}, {0, 2, 0, 12}};
        for (int town = 0; town < 3; town++) {
            for (int what = 0; what < 4; what++) {
                CHECK.due("town(" + town + ", " + what + ")", x.town(town, what), due[town][what]);
            }
        }
        x.close(1, true);
        CHECK.due("a closed one is none of b's", x.town(1, 1), 1);
        CHECK.due("c has none", x.town(2, 1), 0);
        CHECK.due("no way", x.town(2, 3), 999);
        x = Check.of("town a; town b; capital b; road a b 1; road a b 1; road a b 1; road a b 1; road a b 1;"
            + " road a b 1; road a b 1;"
            + "road a b 1; road a b 1; road b a 1; person p 0 a b; person q 0 a b; person r 0 a b;"
            + " person s 0 a b; person t 0 a b; person u 0 a b;");
        CHECK.due("ten roads", x.town(0, 1), 1023);
        CHECK.due("ten roads", x.town(1, 1), 1023);
        CHECK.due("six people", x.town(1, 2), 63);
        CHECK.due("of b", x.town(1, 0) * 10 + x.town(1, 3), 10);
    }

    /** Promise 6: "NONE for others." */
    static void townIsNoneForOthers() {
        NoonRinger x = Check.of(LINE);
        for (int wrong : new int[] {-1, -2, 4, 5, 32, 256, MIN, MAX}) {
            CHECK.due("town(0, " + wrong + ")", x.town(0, wrong), -1);
        }
        for (int wrong : new int[] {-1, -2, 3, 7, 32, MIN, MAX}) {
            for (int what = 0; what < 4; what++) {
                CHECK.due("town(" + wrong + ", " + what + ")", x.town(wrong, what), -1);
            }
        }
        CHECK.due("the seventh of seven", Check.of(ROUND).town(6, 3), 99);
        CHECK.due("an eighth", Check.of(ROUND).town(7, 3), -1);
    }

    /** Promise 7: "what 0 one TOWN, 1 the other, 2 LONG, 3: 1 open, 0 CLOSED." */
    static void roadTellsOfARoad() {
        NoonRinger x = Check.of("town a; town b; town c; road c a 1; road b c 99;");
        int[][] due = {{2, 0, 1, 1}, {1, 2, 99, 1}};
        for (int road = 0; road < 2; road++) {
            for (int what = 0; what < 4; what++) {
                CHECK.due("road(" + road + ", " + what + ")", x.road(road, what), due[road][what]);
            }
        }
        x.close(1, true);
        CHECK.due("closed", x.road(1, 3), 0);
        CHECK.due("open", x.road(0, 3), 1);
        CHECK.due("long as ever", x.road(1, 2), 99);
    }

    /** Promise 7: "NONE for others." */
    static void roadIsNoneForOthers() {
        NoonRinger x = Check.of(LINE);
        for (int wrong : new int[] {-1, -2, 4, 5, 32, 256, MIN, MAX}) {
            CHECK.due("road(0, " + wrong + ")", x.road(0, wrong), -1);
        }
        for (int wrong : new int[] {-1, -2, 2, 10, 32, MIN, MAX}) {
            for (int what = 0; what < 4; what++) {
                CHECK.due("road(" + wrong + ", " + what + ")", x.road(wrong, what), -1);
            }
        }
        CHECK.due("no roads", Check.of("town a;").road(0, 3), -1);
    }

    /**
     * Promise 8: "what 0 HONEST, 1 HOME, 2 where they are, 3 where they go (-2: nowhere), 4 walked, 5 rung, .. 12
     * DOUBTS now."
     */
    static void personTellsOfAPerson() {
        NoonRinger x = Check.of(LINE + "claims = far + which; strokes = 20 + which; gifts = 30 + which;"
            + " doubts = if which < 1 then 100 else 0;");
        x.send(1, 2);
        x.days(1);
        int[][] due = {{2, 1, 0, -2, 0, 0, 0, 0, 5, 5, 20, 30, 100}, {4, 2, 1, 2, 5, 1, 31, 0, 12, 13, 21, 31, 0},
            {6, 0, 1, -2, 0, 0, 0, 0, 0, 2, 22, 32, 0}};
        for (int person = 0; person < 3; person++) {
            for (int what = 0; what < 13; what++) {
                CHECK.due("person(" + person + ", " + what + ")", x.person(person, what), due[person][what]);
            }
        }
        x = Check.of(ALL_LIE);
        x.days(1);
        CHECK.due("barred", x.person(1, 7), 1);
        CHECK.due("else 0", x.person(0, 7), 0);
    }

    /** Promise 8: "NONE for others." */
    static void personIsNoneForOthers() {
        NoonRinger x = Check.of(LINE);
        for (int wrong : new int[] {-1, -2, 13, 14, 32, 256, MIN, MAX}) {
            CHECK.due("person(0, " + wrong + ")", x.person(0, wrong), -1);
        }
        for (int wrong : new int[] {-1, -2, 3, 6, 32, MIN, MAX}) {
            for (int what = 0; what < 13; what++) {
                CHECK.due("person(" + wrong + ", " + what + ")", x.person(wrong, what), -1);
            }
        }
    }

    // ---- Promises 9 to 13 ----

    /**
     * Promise 9: "SENT to a TOWN (NONE: told to stay): true". Where no way leads, too, and who is barred, and who goes
     * elsewhere.
     */
    static void sendToATownOrToStay() {
        NoonRinger x = Check.of(LINE + "town d; claims = 50; doubts = 100;");
        x.days(1);
        CHECK.due("p is barred", x.count(6), 1);
        CHECK.due("sent", x.send(0, 2), true);
        CHECK.due("goes", x.person(0, 3), 2);
        CHECK.due("where no way leads", x.send(1, 3), true);
        CHECK.due("goes", x.person(1, 3), 3);
        CHECK.due("elsewhere", x.send(1, 2), true);
        CHECK.due("goes", x.person(1, 3), 2);
        CHECK.due("to the first town", x.send(2, 0), true);
        CHECK.due("goes", x.person(2, 3), 0);
        CHECK.due("all three", x.count(15), 7);
        CHECK.due("told to stay", x.send(1, NoonRinger.NONE), true);
        CHECK.due("nowhere", x.person(1, 3), -2);
        CHECK.due("two", x.count(15), 5);
        CHECK.due("nobody came anywhere", x.town(0, 2) * 10 + x.town(1, 2), 34);
        CHECK.due("five things done", x.count(9), 6);
    }

    private static void notSent(NoonRinger x, int person, int town) {
        String before = Check.all(x);
        CHECK.due("send(" + person + ", " + town + ")", x.send(person, town), false);
        CHECK.due("behind send(" + person + ", " + town + ")", Check.all(x), before);
    }

    /** Promise 9: "false, and nothing happens: it is so". */
    static void sendWhereTheyGoAlready() {
        NoonRinger x = Check.of(LINE);
        x.send(0, 2);
        notSent(x, 0, 2);
        notSent(x, 1, -1);
        x.days(2);
        notSent(x, 0, -1);
        x.send(0, 0);
        x.send(0, -1);
        notSent(x, 0, -1);
    }

    /** Promise 9: "they are there". Though they go elsewhere, which they do still. */
    static void sendWhereTheyAre() {
        NoonRinger x = Check.of(LINE);
        notSent(x, 0, 0);
        notSent(x, 2, 1);
        x.send(0, 2);
        notSent(x, 0, 0);
        CHECK.due("goes still", x.person(0, 3), 2);
        x.days(1);
        notSent(x, 0, 1);
        CHECK.due("from there, too", x.person(0, 3), 2);
    }

    /** Promise 9: "no such ones." */
    static void sendNoSuchOnes() {
        NoonRinger x = Check.of(LINE);
        x.send(0, 2);
        String before = Check.all(x);
        for (int wrong : new int[] {-1, -2, 3, 6, 32, MIN, MAX}) {
            CHECK.due("no such person " + wrong, x.send(wrong, 0), false);
            CHECK.due("no such person " + wrong, x.send(wrong, -1), false);
        }
        for (int wrong : new int[] {-2, -3, 3, 7, 32, MIN, MAX}) {
            CHECK.due("no such town " + wrong, x.send(0, wrong), false);
        }
        CHECK.due("nothing happens", Check.all(x), before);
        CHECK.due("no people", new NoonRinger().send(0, -1), false);
    }

    /** Promise 10: "A ROAD is CLOSED, or opened: true". The last of ten, too. */
    static void closeOrOpenARoad() {
        NoonRinger x = Check.of("town a; town b; road a b 9; road a b 8; road a b 7; road a b 6; road a b 5;"
            + " road a b 4; road a b 3;"
            + "road a b 2; road a b 1; road a b 1;");
        for (int road = 9; road >= 0; road--) {
            CHECK.due("closed", x.close(road, true), true);
            CHECK.due("closed", x.road(road, 3), 0);
            CHECK.due("closed ones", x.count(7), 1023 & -1 << road);
            CHECK.due("far", x.far(0, 1), road == 0 ? 999 : 10 - road);
        }
        for (int road = 0; road < 10; road++) {
            CHECK.due("opened", x.close(road, false), true);
            CHECK.due("open", x.road(road, 3), 1);
            CHECK.due("far", x.far(0, 1), Math.max(1, 9 - road));
        }
        CHECK.due("things done", x.count(9), 20);
    }

    /** Promise 10: "false, and nothing happens: it is so". */
    static void closeWhatIsSo() {
        NoonRinger x = Check.of(LINE);
        x.close(1, true);
        String before = Check.all(x);
        CHECK.due("closed already", x.close(1, true), false);
        CHECK.due("open already", x.close(0, false), false);
        CHECK.due("nothing happens", Check.all(x), before);
        CHECK.due("far", x.far(0, 1), 5);
        x.close(1, false);
        CHECK.due("open again", x.close(1, false), false);
    }

    /** Promise 10: "no such ROAD." */
    static void closeNoSuchRoad() {
        NoonRinger x = Check.of(LINE);
        String before = Check.all(x);
        for (int wrong : new int[] {-1, -2, 2, 3, 10, 31, 32, 33, MIN, MAX}) {
            CHECK.due("close(" + wrong + ", true)", x.close(wrong, true), false);
            CHECK.due("close(" + wrong + ", false)", x.close(wrong, false), false);
        }
        CHECK.due("nothing happens", Check.all(x), before);
        CHECK.due("no roads", new NoonRinger().close(0, true), false);
    }

    /** Promise 11: "Let in again: true". */
    static void admitWhoIsBarred() {
        NoonRinger x = Check.of(ALL_LIE);
        x.days(2);
        CHECK.due("both are barred", x.count(6), 3);
        CHECK.due("q", x.admit(1), true);
        CHECK.due("p is barred still", x.count(6), 1);
        CHECK.due("q rings", x.ringer(), 1);
        CHECK.due("p", x.admit(0), true);
        CHECK.due("nobody is barred", x.count(6), 0);
        CHECK.due("things done", x.count(9), 3);
        x.days(1);
        CHECK.due("q can be found out again", x.count(6), 2);
    }

    /** Promise 11: "false, and nothing happens: not BARRED, no such PERSON." */
    static void admitWhoIsNotBarred() {
        NoonRinger x = Check.of(ALL_LIE);
        x.days(1);
        String before = Check.all(x);
        for (int wrong : new int[] {0, -1, -2, 2, 6, 31, 32, 33, MIN, MAX}) {
            CHECK.due("admit(" + wrong + ")", x.admit(wrong), false);
        }
        CHECK.due("nothing happens", Check.all(x), before);
        x.admit(1);
        CHECK.due("let in already", x.admit(1), false);
        CHECK.due("no people", new NoonRinger().admit(0), false);
    }

    /** Promise 12: "n DAYS (0 .. 60" and ") go by: which it is". 60 at once are as 60 one by one. */
    static void days0To60() {
        NoonRinger x = Check.of(Samples.TWO_LIARS);
        NoonRinger y = Check.of(Samples.TWO_LIARS);
        x.send(0, 1);
        y.send(0, 1);
        CHECK.due("days(60)", x.days(60), 60);
        for (int day = 1; day <= 60; day++) {
            CHECK.due("days(1)", y.days(1), day);
        }
        y.hold(0);
        y.restore(0);
        x.hold(0);
        x.restore(0);
        CHECK.due("one and the same", Check.all(x), Check.all(y));
        CHECK.due("and 60 more", x.days(60), 120);
        CHECK.due("and 59 more", x.days(59), 179);
    }

    /** Promise 12: "0 is no thing done". */
    static void days0IsNoThingDone() {
        NoonRinger x = Check.of(LINE);
        CHECK.due("days(0)", x.days(0), 0);
        CHECK.due("nothing to undo", x.undo(), false);
        x.days(3);
        String before = Check.all(x);
        CHECK.due("days(0)", x.days(0), 3);
        CHECK.due("nothing happens", Check.all(x), before);
        CHECK.due("the three days are undone", x.undo(), true);
        CHECK.due("the day", x.count(3), 0);
    }

    /** Promise 12: "NONE, and nothing happens: no such n." */
    static void daysNoSuchN() {
        NoonRinger x = Check.of(LINE);
        x.days(1);
        String before = Check.all(x);
        for (int wrong : new int[] {-1, -2, -60, 61, 62, 120, MIN, MAX}) {
            CHECK.due("days(" + wrong + ")", x.days(wrong), -1);
        }
        CHECK.due("nothing happens", Check.all(x), before);
    }

    /** Promise 13: "The last thing done (send, close, admit, days) is undone: true". */
    static void undoTheLastThingDone() {
        NoonRinger x = Check.of(Samples.TWO_LIARS);
        String[] was = new String[8];
        was[0] = Check.all(x);
        x.send(0, 1);
        was[1] = Check.all(x);
        x.days(5);
        was[2] = Check.all(x);
        x.admit(1);
        was[3] = Check.all(x);
        x.close(0, true);
        was[4] = Check.all(x);
        x.close(0, false);
        was[5] = Check.all(x);
        x.send(0, 0);
        was[6] = Check.all(x);
        x.send(0, -1);
        // none of these is a thing done
        x.send(0, -1);
        x.close(0, false);
        x.admit(1);
        x.days(0);
        x.days(61);
        for (int i = 6; i >= 0; i--) {
            CHECK.due("undo", x.undo(), true);
            CHECK.due("as it was", Check.all(x), was[i]);
            CHECK.due("far, too", x.far(0, 1), i == 4 ? 999 : 9);
        }
        CHECK.due("nothing is left", x.undo(), false);
    }

    /** Promise 13: "false: there is none". Then nothing happens. */
    static void undoWhereThereIsNone() {
        NoonRinger x = Check.of(LINE);
        String before = Check.all(x);
        CHECK.due("undo", x.undo(), false);
        CHECK.due("nothing happens", Check.all(x), before);
        x.tell(5, true);
        x.hold(0);
        CHECK.due("to tell and to hold is no thing done", x.undo(), false);
        x.days(1);
        CHECK.due("undo", x.undo(), true);
        CHECK.due("undo is no thing done", x.undo(), false);
        CHECK.due("a new object", new NoonRinger().undo(), false);
    }

    /** Promise 13: "(the last 40 can be)." */
    static void undoTheLast40() {
        NoonRinger x = new NoonRinger();
        for (int i = 1; i <= 40; i++) {
            x.days(1);
            CHECK.due("things that can be undone", x.count(9), i);
        }
        x.days(1);
        CHECK.due("of 41", x.count(9), 40);
        for (int day = 40; day >= 1; day--) {
            CHECK.due("undo", x.undo(), true);
            CHECK.due("the day", x.count(3), day);
        }
        CHECK.due("a 41st", x.undo(), false);
        CHECK.due("the day", x.count(3), 1);
        for (int i = 0; i < 99; i++) {
            x.days(1);
        }
        for (int i = 0; i < 40; i++) {
            CHECK.due("40 of 99", x.undo(), true);
        }
        CHECK.due("a 41st", x.undo(), false);
        CHECK.due("the day", x.count(3), 60);
    }

    // ---- Promises 41 to 43 ----

    /** Promise 41: "All that goes on .. is held in a SLOT (0 .. 2): true". */
    static void holdAllThatGoesOn() {
        NoonRinger x = Check.of(Samples.TWO_LIARS);
        String[] was = new String[3];
        for (int slot = 0; slot < 3; slot++) {
            x.close(0, slot == 1);
            x.send(slot == 0 ? 1 : 0, slot == 2 ? 0 : 1);
            x.days(2);
            CHECK.due("hold", x.hold(slot), true);
            CHECK.due("slots", x.count(11), slot + 1);
        }
        for (int slot = 0; slot < 3; slot++) {
            CHECK.due("restore", x.restore(slot), true);
            CHECK.due("the day", x.count(3), 2 * slot + 2);
            CHECK.due("closed", x.count(7), slot == 1 ? 1 : 0);
            CHECK.due("far", x.far(0, 1), slot == 1 ? 999 : 9);
            was[slot] = Check.all(x);
        }
        for (int slot = 2; slot >= 0; slot--) {
            x.days(7);
            CHECK.due("restore", x.restore(slot), true);
            CHECK.due("as it was", Check.all(x), was[slot]);
        }
        x.days(1);
        CHECK.due("held anew", x.hold(0), true);
        CHECK.due("slots", x.count(11), 3);
        x.restore(2);
        x.restore(0);
        CHECK.due("the later one", x.count(3), 3);
    }

    /** Promise 41: "(not what is TOLD, nor the tape)". */
    static void holdNotWhatIsToldNorTheTape() {
        NoonRinger x = Check.of(LINE);
        x.tell(5, true);
        Check.feed(x, "town");
        x.hold(0);
        x.tell(6, true);
        x.back(1);
        x.restore(0);
        CHECK.due("two are told still", x.count(10), 2);
        CHECK.due("three bytes are on the tape", x.count(8), 3);
        x.forget();
        x.restore(0);
        CHECK.due("nothing is told", x.count(10), 0);
    }

    /** Promise 41: "false: no such one." */
    static void holdNoSuchSlot() {
        NoonRinger x = Check.of(LINE);
        for (int wrong : new int[] {-1, -2, 3, 4, 31, 32, 33, MIN, MAX}) {
            CHECK.due("hold(" + wrong + ")", x.hold(wrong), false);
        }
        CHECK.due("nothing is held", x.count(11), 0);
        CHECK.due("of no text, too", new NoonRinger().hold(2), true);
    }

    /** Promise 42: "It goes on from what a SLOT holds (that stays there; nothing can be undone then): true". */
    static void restoreStaysAndCannotBeUndone() {
        NoonRinger x = Check.of(LINE);
        x.days(1);
        x.hold(1);
        x.days(1);
        x.send(0, 1);
        CHECK.due("restore", x.restore(1), true);
        CHECK.due("the day", x.count(3), 1);
        CHECK.due("nothing can be undone", x.count(9), 0);
        CHECK.due("nothing can be undone", x.undo(), false);
        CHECK.due("it is held still", x.count(11), 1);
        x.days(5);
        CHECK.due("what is done then can", x.undo(), true);
        CHECK.due("the day", x.count(3), 1);
        x.days(9);
        CHECK.due("restore again", x.restore(1), true);
        CHECK.due("the day", x.count(3), 1);
        x.days(2);
        x.undo();
        CHECK.due("what the slot holds is not changed by what is done", x.restore(1), true);
        CHECK.due("the day", x.count(3), 1);
    }

    /** Promise 42: "false, and nothing happens: no such one, nothing is held." */
    static void restoreNoSuchSlotOrAnEmptyOne() {
        NoonRinger x = Check.of(LINE);
        x.days(2);
        x.hold(1);
        x.send(0, 1);
        String before = Check.all(x);
        for (int wrong : new int[] {-1, -2, 0, 2, 3, 4, 31, 32, 33, MIN, MAX}) {
            CHECK.due("restore(" + wrong + ")", x.restore(wrong), false);
        }
        CHECK.due("nothing happens", Check.all(x), before);
        CHECK.due("what was done can be undone", x.undo(), true);
        CHECK.due("nobody goes", x.count(15), 0);
    }

    /** Promise 43: "0 TOWNS, 1 ROADS, 2 PEOPLE, 3 the day", as many as there are, or none. */
    static void countTownsRoadsPeopleDays() {
        NoonRinger x = Check.of(ROUND + SIX);
        x.days(60);
        int[] due = {7, 7, 6, 60};
        for (int what = 0; what < 4; what++) {
            CHECK.due("count(" + what + ")", x.count(what), due[what]);
            CHECK.due("of a new one", new NoonRinger().count(what), 0);
        }
    }

    /** Promise 43: "4 who rang last (-2: nobody at the last NOON, none was yet), 5 how many STROKES then (0)". */
    static void countWhoRangLast() {
        NoonRinger x = Check.of("town a; town b; road a b 5; person p 0 a a; person q 0 b a; strokes = 3 + which;");
        CHECK.due("none was yet", x.count(4), -2);
        CHECK.due("no strokes", x.count(5), 0);
        x.days(1);
        CHECK.due("q", x.count(4) * 10 + x.count(5), 14);
        x.send(1, 1);
        x.days(2);
        CHECK.due("p", x.count(4) * 10 + x.count(5), 3);
        x.send(0, 1);
        x.days(1);
        CHECK.due("p still", x.count(4) * 10 + x.count(5), 3);
        x.days(1);
        CHECK.due("nobody at the last noon", x.count(4), -2);
        CHECK.due("no strokes", x.count(5), 0);
        CHECK.due("nobody at the noons of a new one", new NoonRinger().count(4), -2);
    }

    /** Promise 43: "6 BARRED, 7 CLOSED ROADS .. (6, 7: bits)." */
    static void countBarredAndClosed() {
        NoonRinger x = Check.of("town a; town b; road a b 1; road a b 1; road a b 1; road a b 1; road a b 1;"
            + " road a b 1; road a b 1;"
            + "road a b 1; road a b 1; road a b 1; person p 0 a a; person q 1 a a; person r 2 a a;"
            + " person s 3 a a; person t 4 a a;"
            + "person u 5 a a; claims = honest + 1; doubts = 100;");
        CHECK.due("nobody, none", x.count(6) + x.count(7), 0);
        x.days(1);
        CHECK.due("the last of six", x.count(6), 32);
        x.days(5);
        CHECK.due("all six", x.count(6), 63);
        x.close(9, true);
        CHECK.due("the last of ten", x.count(7), 512);
        for (int road = 0; road < 9; road++) {
            x.close(road, true);
        }
        CHECK.due("all ten", x.count(7), 1023);
    }

    /** Promise 43: "8 bytes on the tape, 9 things that can be undone, 10 TOLD ones, 11 SLOTS that hold something". */
    static void countTapeUndosToldAndSlots() {
        NoonRinger x = Check.of(LINE);
        CHECK.due("none at first", x.count(8) + x.count(9) + x.count(10) + x.count(11), 0);
        Check.feed(x, " ".repeat(2000));
        CHECK.due("a full tape", x.count(8), 2000);
        for (int i = 0; i < 50; i++) {
            x.days(1);
            x.tell(i, true);
            x.hold(i % 4);
        }
        CHECK.due("40 things", x.count(9), 40);
        CHECK.due("20 told ones", x.count(10), 20);
        CHECK.due("3 slots", x.count(11), 3);
        x.undo();
        CHECK.due("39 things", x.count(9), 39);
        NoonRinger y = Check.of(LINE);
        y.hold(2);
        CHECK.due("one slot, which is not the first", y.count(11), 1);
    }

    /** Promise 43: "12 who is in the CAPITAL (bits), .. 15 who goes (bits)". The barred, too. */
    static void countWhoIsInTheCapitalAndWhoGoes() {
        NoonRinger x = Check.of("town a; town b; road a b 1; person p 0 a b; person q 1 a a; person r 2 a a;"
            + " person s 3 a a; person t 4 a a;"
            + "person u 5 a a; claims = honest + 1; doubts = 100;");
        CHECK.due("all but the first", x.count(12), 62);
        CHECK.due("nobody goes", x.count(15), 0);
        x.days(2);
        x.send(5, 1);
        x.send(0, 0);
        CHECK.due("the barred, too", x.count(12), 62);
        CHECK.due("the first and the last go", x.count(15), 33);
        x.days(1);
        CHECK.due("all but the last", x.count(12), 31);
        CHECK.due("nobody goes", x.count(15), 0);
        CHECK.due("no towns", new NoonRinger().count(12), 0);
        CHECK.due("no towns", new NoonRinger().count(15), 0);
    }

    /** Promise 43: "13 how often any rang so far, 14 PURSES of all, added". */
    static void countRungAndPursesOfAll() {
        NoonRinger x = Check.of("town a; person p 0 a a; person q 0 a a; claims = if rung < 3 then 9 else 1;"
            + " gifts = 5 + which;");
        CHECK.due("nobody", x.count(13) + x.count(14), 0);
        x.days(5);
        CHECK.due("3 and 2", x.person(0, 5) * 10 + x.person(1, 5), 32);
        CHECK.due("rung", x.count(13), 5);
        CHECK.due("purses", x.count(14), 27);
        x = Check.of("town a; person p 0 a a; person q 0 a a; claims = if purse < 9999 * 10 then 9 else 1; gifts = 99;");
        for (int i = 0; i < 36; i++) {
            x.days(60);
        }
        CHECK.due("a full one and one nearly full", x.count(14), 99999 + 99990);
    }

    /** Promise 43: "16 miles of all open ROADS, added." */
    static void countMilesOfOpenRoads() {
        CHECK.due("no roads", Check.of("town a;").count(16), 0);
        NoonRinger x = Check.of(LINE);
        CHECK.due("5 and 7", x.count(16), 12);
        x.close(0, true);
        CHECK.due("7", x.count(16), 7);
        x.close(1, true);
        CHECK.due("none", x.count(16), 0);
        CHECK.due("7 times 99", Check.of(ROUND).count(16), 693);
    }

    /** Promise 43: "NONE for others". */
    static void countIsNoneForOthers() {
        NoonRinger x = Check.of(LINE);
        for (int wrong : new int[] {-1, -2, 17, 18, 32, 256, MIN, MAX}) {
            CHECK.due("count(" + wrong + ")", x.count(wrong), -1);
        }
    }
}
