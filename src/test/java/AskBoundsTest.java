/**
 * Parts III and IV of "Terms" and promises 14 to 40: each sentence of the document that names a boundary has a test of
 * its own here, with that sentence ahead of it.
 */
public final class AskBoundsTest {
    private static final Check CHECK = new Check();
    private static final int MIN = Integer.MIN_VALUE;
    private static final int MAX = Integer.MAX_VALUE;
    private static final String LINE = Samples.LINE;
    private static final String ROUND = Samples.ROUND;
    private static final String ALL_LIE = Samples.ALL_LIE;
    private static final String SIX = Samples.SIX;
    /** p rings, from day 60 on q. */
    private static final String FROM_DAY_60 = "town a; person p 0 a a; person q 0 a a;"
        + " claims = if day < 60 then 1 - which else which;";
    private static final int[] WRONG_PEOPLE = {-1, -2, 3, 6, 31, 32, 33, MIN, MAX};
    private static final int[] WRONG_TOWNS = {-1, -2, 3, 7, 31, 32, 33, MIN, MAX};
    private static final int[] WRONG_DAYS = {-1, -2, 61, 62, 120, MIN, MAX};
    private static final int[] WRONG_WHATS = {-1, -2, 2, 3, 32, 256, MIN, MAX};
    private static final int QUESTIONS = 29;

    public static void main(String[] args) throws ReflectiveOperationException {
        CHECK.runAll(AskBoundsTest.class);
    }

    // ---- Terms, part III, and promises 14 to 36 ----

    private static int ask(NoonRinger x, int question) {
        switch (question) {
            case 0: return x.ringer();
            case 1: return x.far(0, 2);
            case 2: return x.longest(0, 2);
            case 3: return x.liars();
            case 4: return x.truth();
            case 5: return x.turns();
            case 6: return x.wish(1);
            case 7: return x.when(1);
            case 8: return x.soonest(2);
            case 9: return x.often(0, 60);
            case 10: return x.rings(60);
            case 11: return x.walks(0);
            case 12: return x.stranger(0);
            case 13: return x.clerks(1);
            case 14: return x.centre(0);
            case 15: return x.meet(0);
            case 16: return x.tree();
            case 17: return x.bridges();
            case 18: return x.steps(0, 2);
            case 19: return x.then(0, 60);
            case 20: return x.rungIn(1, 60);
            case 21: return x.barredIn(60);
            case 22: return x.year(0, 60, 20);
            case 23: return x.whence(1, 1, 1);
            case 24: return x.listen(1, 1);
            case 25: return x.town(1, 2) + x.road(1, 3) + x.person(1, 9);
            case 26: return x.person(0, 10) + x.person(1, 11) + x.person(1, 12);
            case 27: return x.place();
            default: return x.count(13);
        }
    }

    /** Terms III: "What would be (nothing happens". */
    static void nothingHappensWhereOneAsks() {
        String lying = LINE + "claims = far + honest; doubts = 60; gifts = 3; seed 7;";
        NoonRinger one = asked(lying);
        int[] first = new int[QUESTIONS];
        for (int i = 0; i < QUESTIONS; i++) {
            first[i] = ask(one, i);
        }
        for (int i = 0; i < QUESTIONS; i++) {
            NoonRinger x = asked(lying);
            String before = Check.all(x);
            CHECK.due("question " + i + ", ahead of all others", ask(x, i), first[i]);
            CHECK.due("question " + i + ", nothing happens", Check.all(x), before);
            CHECK.due("question " + i + ", told anew", ask(x, i), first[i]);
            x.days(5);
            one = asked(lying);
            one.days(5);
            CHECK.due("question " + i + ", what comes then", Check.all(x), Check.all(one));
            CHECK.due("question " + i + ", undone", x.undo(), true);
            CHECK.due("question " + i + ", as it was", Check.all(x), before);
        }
    }

    private static NoonRinger asked(String text) {
        NoonRinger x = Check.of(text);
        x.days(1);
        x.send(2, 0);
        x.send(0, 2);
        x.hold(1);
        x.tell(6, true);
        return x;
    }

    /** Terms III: "nobody is found out but in IN n DAYS and YEAR)." */
    static void nobodyIsFoundOutButInThenAndYear() {
        NoonRinger x = Check.of(ALL_LIE);
        CHECK.due("when(0)", x.when(0), -2);
        CHECK.due("when(1)", x.when(1), 0);
        CHECK.due("soonest(0)", x.soonest(0), -2);
        CHECK.due("often(1, 60)", x.often(1, 60), 60);
        CHECK.due("rings(60)", x.rings(60), 1);
        CHECK.due("rungIn(1, 60)", x.rungIn(1, 60), 0);
        CHECK.due("barredIn(1)", x.barredIn(1), 2);
        CHECK.due("barredIn(2)", x.barredIn(2), 3);
        CHECK.due("year(1, 60, 20)", x.year(1, 60, 20), 0);
    }

    /** Promise 14: "RINGER (-2: nobody)." */
    static void ringerOrNobody() {
        CHECK.due("a new object", new NoonRinger().ringer(), -2);
        CHECK.due("no people", Check.of("town a;").ringer(), -2);
        CHECK.due("not there", Check.of("town a; town b; person p 0 a b;").ringer(), -2);
        CHECK.due("the first", Check.of("town a; person p 0 a a;").ringer(), 0);
        CHECK.due("the last of six", Check.of("town a;" + SIX + "claims = honest;").ringer(), 5);
    }

    /** Promise 15: "FAR (999: no way); NONE: no such TOWNS." */
    static void farOrNoWayOrNoSuchTowns() {
        NoonRinger x = Check.of(LINE);
        CHECK.due("a c", x.far(0, 2) * 100 + x.far(2, 0), 1212);
        x.close(1, true);
        CHECK.due("no way", x.far(0, 2) + x.far(2, 0), 1998);
        CHECK.due("one and the same", x.far(2, 2), 0);
        for (int wrong : WRONG_TOWNS) {
            CHECK.due("far(" + wrong + ", 0)", x.far(wrong, 0), -1);
            CHECK.due("far(0, " + wrong + ")", x.far(0, wrong), -1);
            CHECK.due("far of one and the same", x.far(wrong, wrong), -1);
        }
        CHECK.due("no towns", new NoonRinger().far(0, 0), -1);
    }

    /** Terms III: "LONGEST .. of a way by open ROADS that comes to no TOWN twice." */
    static void longestComesToNoTownTwice() {
        NoonRinger x = Check.of("town a; town b; town c; town d; road a b 5; road b c 7; road a c 3; road b d 9;"
            + " road b d 4;");
        CHECK.due("a c by b", x.longest(0, 2), 12);
        CHECK.due("a b by c, not by d", x.longest(0, 1), 10);
        CHECK.due("a d by c and b", x.longest(0, 3), 19);
        CHECK.due("b d by one of two", x.longest(1, 3), 9);
        CHECK.due("one and the same, not round", x.longest(0, 0), 0);
        x.close(1, true);
        CHECK.due("by open roads", x.longest(0, 2), 3);
        x = Check.of(ROUND);
        CHECK.due("all seven", x.longest(0, 1), 594);
        CHECK.due("not round", x.longest(3, 3), 0);
    }

    /** Promise 16: "(one and the same: 0); -2: there is no way; NONE: no such TOWNS." */
    static void longestOrNoWayOrNoSuchTowns() {
        NoonRinger x = Check.of(LINE);
        x.close(1, true);
        CHECK.due("no way", x.longest(0, 2), -2);
        CHECK.due("no way back", x.longest(2, 1), -2);
        CHECK.due("one and the same, apart", x.longest(2, 2), 0);
        CHECK.due("a way", x.longest(1, 0), 5);
        for (int wrong : WRONG_TOWNS) {
            CHECK.due("longest(" + wrong + ", 0)", x.longest(wrong, 0), -1);
            CHECK.due("longest(0, " + wrong + ")", x.longest(0, wrong), -1);
            CHECK.due("longest of one and the same", x.longest(wrong, wrong), -1);
        }
        CHECK.due("no towns", new NoonRinger().longest(0, 0), -1);
    }

    /** Terms III: "LIARS: PEOPLE who LIE now.", promise 17: "LIARS (bits)." Anywhere, the barred, too. */
    static void liarsAreAllWhoLieNow() {
        NoonRinger x = Check.of(LINE + "claims = 5;");
        CHECK.due("q and r, who is elsewhere", x.liars(), 6);
        x.close(0, true);
        CHECK.due("p, too, as it is 999 now", x.liars(), 7);
        x.close(0, false);
        CHECK.due("p no more", x.liars(), 6);
        x = Check.of(ALL_LIE);
        x.days(2);
        CHECK.due("who is barred", x.liars(), 3);
        CHECK.due("the last of six", Check.of("town a;" + SIX + "claims = honest;").liars(), 32);
        CHECK.due("nobody", Check.of(LINE).liars(), 0);
        CHECK.due("no people", new NoonRinger().liars(), 0);
    }

    /** Terms III: "TRUE: who would ring, did all claim far.", promise 18: "TRUE (-2: nobody)." */
    static void truthIsWhoWouldRing() {
        NoonRinger x = Check.of(LINE + "claims = 20 - far; doubts = if which < 1 then 0 else 100;");
        CHECK.due("q, though p claims more", x.truth() * 10 + x.ringer(), 10);
        x.send(1, 2);
        x.days(1);
        CHECK.due("p, as q is not there", x.truth(), 0);
        x.send(0, 1);
        x.days(1);
        CHECK.due("nobody", x.truth(), -2);
        CHECK.due("of alike ones the first", Check.of("town a; town b; person p 0 a a; person q 0 b a;"
            + " person r 0 b a;").truth(), 1);
        x = Check.of("town a; town b; road a b 5; person p 0 a a; person q 0 b a; claims = 7;"
            + " doubts = if which < 1 then 100 else 0;");
        x.days(1);
        CHECK.due("p is barred", x.count(6), 1);
        CHECK.due("q", x.truth(), 1);
        x = Check.of(ALL_LIE);
        CHECK.due("p, alike", x.truth(), 0);
        x.days(2);
        CHECK.due("both are barred", x.truth(), -2);
        CHECK.due("no people", new NoonRinger().truth(), -2);
    }

    /**
     * Terms III: "TURNS: open ROADS by whose closing alone the RINGER now would be another, or nobody", promise 19:
     * "TURNS (bits)."
     */
    static void turnsAreOpenRoads() {
        NoonRinger x = Check.of(LINE);
        CHECK.due("without a b both claim 999", x.turns(), 1);
        x.close(0, true);
        CHECK.due("a closed one is none; without b c all is as it is", x.turns(), 0);
        CHECK.due("p", x.ringer(), 0);
        x = Check.of("town a; town b; road a b 5; road a b 5; person p 0 b a; person q 0 b a;"
            + " claims = if far < 9 then which else 1 - which;");
        CHECK.due("one alone of two", x.turns(), 0);
        x.close(0, true);
        CHECK.due("the last one", x.turns(), 2);
        x = Check.of("town a; town b; road a b 5; person p 0 b b;");
        CHECK.due("nobody rings", x.turns(), 0);
        CHECK.due("no roads", new NoonRinger().turns(), 0);
        x = Check.of("town a; town b; road a b 9; road a b 9; road a b 9; road a b 9; road a b 9; road a b 9;"
            + " road a b 9; road a b 9;"
            + "road a b 9; road a b 5; person p 0 a a; person q 0 b a; claims = if far < 1 then 7 else far / 5 * 6;");
        CHECK.due("q claims 6, without the tenth 6, too", x.turns(), 0);
        x = Check.of("town a; town b; road a b 9; road a b 9; road a b 9; road a b 9; road a b 9; road a b 9;"
            + " road a b 9; road a b 9;"
            + "road a b 9; road a b 5; person p 0 a a; person q 0 b a; claims = if far < 1 then 7 else far;");
        CHECK.due("the tenth, without which it is 9", x.turns(), 512);
    }

    /** Terms III: "(the LAWS asked anew)." */
    static void turnsAskTheLawsAnew() {
        NoonRinger x = Check.of(LINE + "claims = if far < 900 then far else 1;");
        CHECK.due("without b c q claims 1", x.turns(), 3);
        CHECK.due("p", x.wish(0), 3);
        CHECK.due("all is as it was", x.person(1, 9), 12);
    }

    /** Terms III: "WISH of a PERSON: those by whose closing alone the RINGER would be that one." They may ring now. */
    static void wishIsOfOpenRoads() {
        NoonRinger x = Check.of(LINE);
        CHECK.due("p", x.wish(0), 1);
        CHECK.due("q, who rings now", x.wish(1), 2);
        CHECK.due("r, who is not there", x.wish(2), 0);
        x.close(0, true);
        CHECK.due("p without b c", x.wish(0), 2);
        CHECK.due("q", x.wish(1), 0);
        x.close(1, true);
        CHECK.due("no open roads", x.wish(0), 0);
    }

    /** Promise 20: "WISH (bits); NONE: no such PERSON." */
    static void wishOfNoSuchPerson() {
        NoonRinger x = Check.of(LINE);
        for (int wrong : WRONG_PEOPLE) {
            CHECK.due("wish(" + wrong + ")", x.wish(wrong), -1);
        }
        CHECK.due("no people", new NoonRinger().wish(0), -1);
        x = Check.of("town a; town b; road a b 5; person p 0 b b;");
        CHECK.due("nobody rings, but -2 is no person", x.wish(-2), -1);
    }

    /** Terms III: "WHEN of a PERSON: behind how many DAYS (0 .. 60) they are RINGER first". */
    static void whenIsBehind0To60Days() {
        CHECK.due("now", Check.of(FROM_DAY_60).when(0), 0);
        CHECK.due("behind 60", Check.of(FROM_DAY_60).when(1), 60);
        CHECK.due("behind 59", Check.of(FROM_DAY_60.replace("60", "59")).when(1), 59);
        CHECK.due("behind 61", Check.of(FROM_DAY_60.replace("60", "61")).when(1), -2);
        CHECK.due("behind 1", Check.of(FROM_DAY_60.replace("60", "1")).when(1), 1);
        NoonRinger x = Check.of(FROM_DAY_60.replace("60", "61"));
        x.days(1);
        CHECK.due("from now on", x.when(1), 60);
        CHECK.due("first", Check.of(FROM_DAY_60.replace("day", "day - day / 4 * 4").replace("60", "3")).when(1), 3);
    }

    /** Terms III: "as all go now." */
    static void whenIsAsAllGoNow() {
        NoonRinger x = Check.of(LINE);
        CHECK.due("p, q stays", x.when(0), -2);
        x.send(1, 2);
        CHECK.due("p, q goes", x.when(0), 1);
        CHECK.due("r does not", x.when(2), -2);
        x.send(0, 1);
        CHECK.due("p goes, too", x.when(0), -2);
        x.send(2, 0);
        CHECK.due("r comes where they are not", x.when(2), 1);
        x.send(1, -1);
        CHECK.due("q stays", x.when(2), -2);
    }

    /** Promise 21: "WHEN; -2: not; NONE: no such PERSON." */
    static void whenNotOrNoSuchPerson() {
        NoonRinger x = Check.of(LINE);
        CHECK.due("not", x.when(2), -2);
        for (int wrong : WRONG_PEOPLE) {
            CHECK.due("when(" + wrong + ")", x.when(wrong), -1);
        }
        CHECK.due("no people", new NoonRinger().when(0), -1);
        CHECK.due("nobody rings, but -2 is no person", Check.of("town a; person p 0 a a; claims = 1;"
            + " doubts = 100;").when(-2), -1);
    }

    /** Terms III: "SOONEST: likewise, were that one SENT to the CAPITAL now". */
    static void soonestIsSentToTheCapital() {
        NoonRinger x = Check.of(LINE + "person s 9 c c;");
        CHECK.due("s comes behind 2 days and claims 12, as q, the first", x.soonest(3), -2);
        x.send(1, 1);
        CHECK.due("q goes", x.soonest(3), 2);
        CHECK.due("when, as s stays", x.when(3), -2);
        x.send(3, 1);
        CHECK.due("though s goes elsewhere", x.soonest(3), 2);
        x.send(3, 0);
        CHECK.due("s goes there", x.soonest(3) * 10 + x.when(3), 22);
        x.close(1, true);
        CHECK.due("no way", x.soonest(3), -2);
        CHECK.due("behind 60 days", Check.of(FROM_DAY_60).soonest(1), 60);
        CHECK.due("behind 61", Check.of(FROM_DAY_60.replace("60", "61")).soonest(1), -2);
        CHECK.due("now", Check.of(FROM_DAY_60).soonest(0), 0);
    }

    /** Terms III: "(who is in it: told to stay there)." */
    static void soonestOfWhoIsThereStays() {
        NoonRinger x = Check.of(FROM_DAY_60.replace("person p", "town b; road a b 5; person p").replace("60", "3"));
        x.send(1, 1);
        CHECK.due("q goes", x.when(1), -2);
        CHECK.due("q stays", x.soonest(1), 3);
        CHECK.due("q goes still", x.person(1, 3), 1);
    }

    /** Promise 22: "SOONEST; -2: not; NONE: no such PERSON." */
    static void soonestNotOrNoSuchPerson() {
        NoonRinger x = Check.of(LINE);
        CHECK.due("not", x.soonest(2), -2);
        for (int wrong : WRONG_PEOPLE) {
            CHECK.due("soonest(" + wrong + ")", x.soonest(wrong), -1);
        }
        CHECK.due("no people", new NoonRinger().soonest(0), -1);
        x = Check.of(ALL_LIE);
        x.days(2);
        CHECK.due("who is barred", x.soonest(1), -2);
    }

    /** Terms III: "OFTEN of a PERSON in n DAYS (0 .. 60): how often they ring." Only in these. */
    static void oftenIn0To60Days() {
        NoonRinger x = Check.of(FROM_DAY_60.replace("60", "59"));
        CHECK.due("p in 0", x.often(0, 0), 0);
        CHECK.due("p in 1", x.often(0, 1), 1);
        CHECK.due("p in 59", x.often(0, 59), 59);
        CHECK.due("p in 60", x.often(0, 60), 59);
        CHECK.due("q in 59", x.often(1, 59), 0);
        CHECK.due("q in 60", x.often(1, 60), 1);
        x.days(40);
        CHECK.due("p from day 40 on", x.often(0, 60), 19);
        CHECK.due("q from day 40 on", x.often(1, 60), 41);
    }

    /** Promise 23: "OFTEN; NONE: no such ones." */
    static void oftenNoSuchOnes() {
        NoonRinger x = Check.of(LINE);
        for (int wrong : WRONG_PEOPLE) {
            CHECK.due("often(" + wrong + ", 1)", x.often(wrong, 1), -1);
        }
        for (int wrong : WRONG_DAYS) {
            CHECK.due("often(1, " + wrong + ")", x.often(1, wrong), -1);
        }
        CHECK.due("no people", new NoonRinger().often(0, 0), -1);
    }

    /** Terms III: "RINGS of n (0 .. 60): the RINGER behind n DAYS." */
    static void ringsBehind0To60Days() {
        NoonRinger x = Check.of(FROM_DAY_60);
        CHECK.due("now", x.rings(0), 0);
        CHECK.due("behind 59", x.rings(59), 0);
        CHECK.due("behind 60", x.rings(60), 1);
        x = Check.of(LINE);
        x.send(1, 2);
        CHECK.due("q goes", x.rings(0), 1);
        CHECK.due("q went", x.rings(1), 0);
    }

    /** Promise 24: "RINGS (-2: nobody); NONE: no such n." */
    static void ringsNobodyOrNoSuchN() {
        CHECK.due("nobody", Check.of("town a; town b; person p 0 a b;").rings(60), -2);
        CHECK.due("no people", new NoonRinger().rings(0), -2);
        NoonRinger x = Check.of("town a; town b; road a b 5; person p 0 b a;");
        x.send(0, 1);
        CHECK.due("nobody then", x.rings(1), -2);
        for (int wrong : WRONG_DAYS) {
            CHECK.due("rings(" + wrong + ")", x.rings(wrong), -1);
            CHECK.due("of no people", new NoonRinger().rings(wrong), -1);
        }
    }

    /** Terms III: "ROAD of a PERSON: which they walk today.", promise 25: "ROAD (-2: none); NONE: no such PERSON." */
    static void walksNoneOrNoSuchPerson() {
        NoonRinger x = Check.of(LINE);
        CHECK.due("goes nowhere", x.walks(0), -2);
        x.send(0, 2);
        CHECK.due("a b", x.walks(0), 0);
        x.days(1);
        CHECK.due("b c", x.walks(0), 1);
        x.close(1, true);
        CHECK.due("no way", x.walks(0), -2);
        x.close(1, false);
        x.days(1);
        CHECK.due("is there", x.walks(0), -2);
        for (int wrong : WRONG_PEOPLE) {
            CHECK.due("walks(" + wrong + ")", x.walks(wrong), -1);
        }
        CHECK.due("no people", new NoonRinger().walks(0), -1);
    }

    /** Terms III: "STRANGER: the PERSON, anywhere, BARRED or not, with most far, of alike ones the first; how much." */
    static void strangerIsAnywhereBarredOrNot() {
        NoonRinger x = Check.of(LINE);
        CHECK.due("q", x.stranger(0) * 100 + x.stranger(1), 112);
        x.send(1, 2);
        x.days(2);
        CHECK.due("q at home", x.stranger(0) * 100 + x.stranger(1), 112);
        x.close(0, true);
        CHECK.due("alike, 999", x.stranger(0) * 1000 + x.stranger(1), 999);
        x = Check.of("town a; town b; road a b 5; person p 1 a a; person q 2 b a; claims = 9 * honest; doubts = 100;");
        x.days(1);
        CHECK.due("q is barred", x.count(6), 2);
        CHECK.due("q all the same", x.stranger(0) * 10 + x.stranger(1), 15);
        CHECK.due("by far, not by what is claimed", Check.of(LINE + "claims = 20 - far;").stranger(0), 1);
        CHECK.due("0 of all", Check.of("town a; person p 0 a a; person q 0 a a;").stranger(0), 0);
        CHECK.due("0 of all", Check.of("town a; person p 0 a a; person q 0 a a;").stranger(1), 0);
    }

    /** Promise 26: "STRANGER: what 0 who, 1 how much; -2: no PEOPLE. NONE for others." */
    static void strangerNoPeopleOrNone() {
        CHECK.due("no people", Check.of("town a;").stranger(0), -2);
        CHECK.due("no people", Check.of("town a;").stranger(1), -2);
        CHECK.due("no towns", new NoonRinger().stranger(0), -2);
        NoonRinger x = Check.of(LINE);
        for (int wrong : WRONG_WHATS) {
            CHECK.due("stranger(" + wrong + ")", x.stranger(wrong), -1);
        }
    }

    /**
     * Terms III: "CLERKS: the fewest TOWNS so that each open ROAD ends at one: how many; which, of as many the least
     * bits."
     */
    static void clerksAreTheFewestOfTheLeastBits() {
        NoonRinger x = Check.of(LINE);
        CHECK.due("b alone", x.clerks(0) * 10 + x.clerks(1), 12);
        x.close(0, true);
        CHECK.due("b or c", x.clerks(0) * 10 + x.clerks(1), 12);
        x.close(1, true);
        CHECK.due("no open roads", x.clerks(0) * 10 + x.clerks(1), 0);
        x = Check.of(ROUND);
        CHECK.due("four of seven", x.clerks(0), 4);
        CHECK.due("a, b, d, f", x.clerks(1), 1 + 2 + 8 + 32);
        CHECK.due("the last two of seven", Check.of("town a; town b; town c; town d; town e; town f; town g;"
            + " road g f 1;").clerks(1), 32);
        CHECK.due("a or b", Check.of("town a; town b; road a b 1;").clerks(1), 1);
        CHECK.due("b or a", Check.of("town a; town b; road b a 1;").clerks(1), 1);
        x = Check.of("town a; town b; town c; town d; town e; road a b 1; road a c 1; road a d 1; road a e 1; road b c 1;"
            + "road b d 1; road b e 1; road c d 1; road c e 1; road d e 1;");
        CHECK.due("all but the last, each with each", x.clerks(0) * 100 + x.clerks(1), 415);
        x.close(9, true);
        CHECK.due("all but d and e", x.clerks(0) * 100 + x.clerks(1), 307);
        CHECK.due("fewer, though of more bits", Check.of("town a; town b; town c; road a c 1; road b c 1;").clerks(1), 4);
    }

    /**
     * Promise 27: "CLERKS: what 0 how many, 1 which (bits). NONE for others." Where there are no TOWNS it is none of
     * them.
     */
    static void clerksOfNothingOrNone() {
        CHECK.due("how many", new NoonRinger().clerks(0), 0);
        CHECK.due("which", new NoonRinger().clerks(1), 0);
        CHECK.due("no roads", Check.of("town a; town b;").clerks(0), 0);
        CHECK.due("no roads", Check.of("town a; town b;").clerks(1), 0);
        NoonRinger x = Check.of(LINE);
        for (int wrong : WRONG_WHATS) {
            CHECK.due("clerks(" + wrong + ")", x.clerks(wrong), -1);
        }
    }

    /** Terms III: "CENTRE: the TOWN whose greatest FAR to any TOWN is least, of alike ones the first; how much." */
    static void centreIsTheFirstOfTheLeast() {
        NoonRinger x = Check.of(LINE);
        CHECK.due("b", x.centre(0) * 10 + x.centre(1), 17);
        x.close(1, true);
        CHECK.due("all alike, 999", x.centre(0) * 1000 + x.centre(1), 999);
        CHECK.due("of two the first", Check.of("town a; town b; road a b 5;").centre(0), 0);
        CHECK.due("one town", Check.of("town a;").centre(0), 0);
        CHECK.due("one town", Check.of("town a;").centre(1), 0);
        x = Check.of(ROUND);
        CHECK.due("round, all alike", x.centre(0) * 1000 + x.centre(1), 297);
        x.close(6, true);
        CHECK.due("d of seven", x.centre(0) * 1000 + x.centre(1), 3297);
        CHECK.due("the last one", Check.of("town a; town b; town c; road a c 5; road c b 5;").centre(0), 2);
    }

    /** Promise 28: "CENTRE: what 0 which, 1 how much; -2: no TOWNS. NONE for others." */
    static void centreNoTownsOrNone() {
        CHECK.due("no towns", new NoonRinger().centre(0), -2);
        CHECK.due("no towns", new NoonRinger().centre(1), -2);
        NoonRinger x = Check.of(LINE);
        for (int wrong : WRONG_WHATS) {
            CHECK.due("centre(" + wrong + ")", x.centre(wrong), -1);
        }
    }

    /**
     * Terms III: "MEET: the TOWN to which FAR from where PEOPLE are, added, is least, of alike ones the first; how
     * much."
     */
    static void meetIsTheFirstOfTheLeast() {
        NoonRinger x = Check.of(LINE);
        CHECK.due("a: 0, 0 and 5", x.meet(0) * 100 + x.meet(1), 5);
        x.send(0, 2);
        x.days(2);
        CHECK.due("b: 7, 5 and 0", x.meet(0) * 100 + x.meet(1), 112);
        x.close(0, true);
        CHECK.due("b and c: 999, 7", x.meet(0) * 10000 + x.meet(1), 11006);
        CHECK.due("no people, the first town", Check.of("town a; town b;").meet(0), 0);
        CHECK.due("no people", Check.of("town a; town b;").meet(1), 0);
        CHECK.due("of alike ones the first", Check.of("town a; town b; road a b 5; person p 0 a b;"
            + " person q 0 a a;").meet(0), 0);
        x = Check.of("town a; town b; person p 0 b a; person q 0 b a; person r 0 b a; person s 0 b b;"
            + " person t 0 b b; person u 0 b b;");
        CHECK.due("three times 999", x.meet(0) * 10000 + x.meet(1), 2997);
        CHECK.due("the last of seven", Check.of(ROUND + "person p 0 a g;").meet(0), 6);
    }

    /** Promise 29: "MEET: likewise." So -2 without TOWNS, NONE for others than 0 and 1. */
    static void meetNoTownsOrNone() {
        CHECK.due("no towns", new NoonRinger().meet(0), -2);
        CHECK.due("no towns", new NoonRinger().meet(1), -2);
        NoonRinger x = Check.of(LINE);
        for (int wrong : WRONG_WHATS) {
            CHECK.due("meet(" + wrong + ")", x.meet(wrong), -1);
        }
    }

    /** Terms III: "TREE: the least miles, added, of open ROADS that join all TOWNS." */
    static void treeIsTheLeastThatJoinsAll() {
        NoonRinger x = Check.of(ROUND.replace("road d e 99", "road d e 98"));
        CHECK.due("six of seven", x.tree(), 593);
        x.close(3, true);
        CHECK.due("the other six", x.tree(), 594);
        x = Check.of("town a; town b; town c; road a b 5; road a b 4; road b c 7; road c a 6;");
        CHECK.due("4 and 6", x.tree(), 10);
        x.close(1, true);
        CHECK.due("5 and 6", x.tree(), 11);
        x = Check.of("town a; town b; town c; town d; road c d 1; road b c 2; road a b 3;");
        CHECK.due("all three", x.tree(), 6);
    }

    /** Promise 30: "TREE (one TOWN: 0); -2: they can not all be joined, no TOWNS." */
    static void treeOfOneTownOrOfNone() {
        CHECK.due("one town", Check.of("town a;").tree(), 0);
        CHECK.due("no towns", new NoonRinger().tree(), -2);
        CHECK.due("two apart", Check.of("town a; town b;").tree(), -2);
        NoonRinger x = Check.of(LINE);
        CHECK.due("all three", x.tree(), 12);
        x.close(1, true);
        CHECK.due("one apart", x.tree(), -2);
        CHECK.due("the first apart", Check.of("town a; town b; town c; road b c 5;").tree(), -2);
    }

    /**
     * Terms III: "BRIDGES: open ROADS by whose closing one could not go between their ends.", promise 31: "BRIDGES
     * (bits)."
     */
    static void bridgesAreOpenRoadsThatPart() {
        NoonRinger x = Check.of(LINE);
        CHECK.due("both", x.bridges(), 3);
        x.close(0, true);
        CHECK.due("a closed one is none", x.bridges(), 2);
        x = Check.of(ROUND);
        CHECK.due("round", x.bridges(), 0);
        x.close(2, true);
        CHECK.due("all but the closed one", x.bridges(), 127 - 4);
        x = Check.of("town a; town b; road a b 5; road a b 9;");
        CHECK.due("two", x.bridges(), 0);
        x.close(0, true);
        CHECK.due("the other one", x.bridges(), 2);
        CHECK.due("no roads", new NoonRinger().bridges(), 0);
    }

    /** Terms III: "STEPS .. in how many DAYS they come there, SENT now (0: there; no other one is looked at)." */
    static void stepsIfSentNow() {
        NoonRinger x = Check.of(LINE);
        CHECK.due("there", x.steps(0, 0), 0);
        CHECK.due("one", x.steps(0, 1), 1);
        CHECK.due("two", x.steps(0, 2), 2);
        x.send(0, 2);
        x.days(1);
        CHECK.due("though sent elsewhere", x.steps(0, 0), 1);
        CHECK.due("there, though they go", x.steps(0, 1), 0);
        x = Check.of(ROUND + "person p 0 a a;");
        CHECK.due("three", x.steps(0, 3), 3);
        x.close(6, true);
        CHECK.due("six", x.steps(0, 6), 6);
        x = Check.of(ALL_LIE);
        x.days(2);
        CHECK.due("who is barred", x.steps(1, 1), 1);
    }

    /** Promise 32: "STEPS; -2: they never come there; NONE: no such ones." */
    static void stepsNeverOrNoSuchOnes() {
        NoonRinger x = Check.of(LINE);
        x.close(1, true);
        CHECK.due("never", x.steps(0, 2), -2);
        for (int wrong : WRONG_PEOPLE) {
            CHECK.due("steps(" + wrong + ", 0)", x.steps(wrong, 0), -1);
        }
        for (int wrong : WRONG_TOWNS) {
            CHECK.due("steps(0, " + wrong + ")", x.steps(0, wrong), -1);
        }
        CHECK.due("no people", Check.of("town a;").steps(0, 0), -1);
    }

    /** Terms III: "IN n DAYS (0 .. 60; found out, too): where a PERSON is; how often they rang; who is BARRED." */
    static void in0To60Days() {
        NoonRinger x = Check.of(FROM_DAY_60.replace("60", "59"));
        CHECK.due("rang in 0", x.rungIn(1, 0), 0);
        CHECK.due("rang in 59", x.rungIn(1, 59), 0);
        CHECK.due("rang in 60", x.rungIn(1, 60), 1);
        x = Check.of(LINE);
        x.send(0, 2);
        CHECK.due("is in 0", x.then(0, 0), 0);
        CHECK.due("is in 1", x.then(0, 1), 1);
        CHECK.due("is in 2", x.then(0, 2), 2);
        CHECK.due("is in 60", x.then(0, 60), 2);
        x = Check.of("town a; person p 0 a a; claims = if day < 59 then far else 7; doubts = 100;");
        CHECK.due("barred in 0", x.barredIn(0), 0);
        CHECK.due("barred in 59", x.barredIn(59), 0);
        CHECK.due("barred in 60", x.barredIn(60), 1);
        CHECK.due("rang in 60", x.rungIn(0, 60), 59);
    }

    /** Promise 33: "IN n DAYS where a PERSON is; NONE: no such ones." */
    static void thenNoSuchOnes() {
        NoonRinger x = Check.of(LINE);
        for (int wrong : WRONG_PEOPLE) {
            CHECK.due("then(" + wrong + ", 1)", x.then(wrong, 1), -1);
        }
        for (int wrong : WRONG_DAYS) {
            CHECK.due("then(0, " + wrong + ")", x.then(0, wrong), -1);
        }
        CHECK.due("no people", new NoonRinger().then(0, 0), -1);
    }

    /** Promise 34: "IN n DAYS how often a PERSON rang, so far and by then; NONE: no such ones." */
    static void rungInSoFarAndByThen() {
        NoonRinger x = Check.of(LINE);
        x.days(3);
        CHECK.due("so far", x.rungIn(1, 0), 3);
        CHECK.due("and by then", x.rungIn(1, 60), 63);
        CHECK.due("not at all", x.rungIn(0, 60), 0);
        for (int wrong : WRONG_PEOPLE) {
            CHECK.due("rungIn(" + wrong + ", 1)", x.rungIn(wrong, 1), -1);
        }
        for (int wrong : WRONG_DAYS) {
            CHECK.due("rungIn(1, " + wrong + ")", x.rungIn(1, wrong), -1);
        }
        CHECK.due("no people", new NoonRinger().rungIn(0, 0), -1);
    }

    /** Promise 35: "IN n DAYS who is BARRED (bits); NONE: no such n." So far, too. */
    static void barredInNoSuchN() {
        NoonRinger x = Check.of(ALL_LIE);
        x.days(1);
        CHECK.due("so far", x.barredIn(0), 2);
        CHECK.due("and by then", x.barredIn(1), 3);
        CHECK.due("nobody is left", x.barredIn(60), 3);
        for (int wrong : WRONG_DAYS) {
            CHECK.due("barredIn(" + wrong + ")", x.barredIn(wrong), -1);
            CHECK.due("of no people", new NoonRinger().barredIn(wrong), -1);
        }
        CHECK.due("no people", new NoonRinger().barredIn(60), 0);
    }

    /**
     * Terms III: "YEAR by s SEEDS (1 .. 20) from the text's SEED on". The lots of q on day 0 were reckoned apart from
     * the class.
     */
    static void yearBy1To20Seeds() {
        NoonRinger x = Check.of(Samples.TWO_LIARS);
        // seed 7 on: 99 81 62 72 4 62 82 78 32 78 33 35 38 61 29 4 62 49 23 43
        int[] rings = {1, 2, 3, 4, 4, 5, 6, 7, 7, 8, 8, 8, 8, 9, 9, 9, 10, 10, 10, 10};
        for (int s = 1; s <= 20; s++) {
            CHECK.due("year(1, 1, " + s + ")", x.year(1, 1, s), rings[s - 1]);
        }
        x = Check.of(Samples.TWO_LIARS.replace("seed 7", "seed 9990"));
        // seed 9990 on: 26 82 3 93 37 2 35 82 67 0, behind 9999 11 is less than 50 only on 10000, 10001 and 10005
        CHECK.due("to 9999", x.year(1, 1, 10), 4);
        CHECK.due("to 10001", x.year(1, 1, 12), 4);
        CHECK.due("to 10002", x.year(1, 1, 13), 5);
        CHECK.due("to 10009", x.year(1, 1, 20), 11);
        CHECK.due("the text's seed is as it was", x.barredIn(1), 2);
    }

    /** Terms III: "in how many of them a PERSON rings in n DAYS (0 .. 60), once at least." */
    static void yearOnceAtLeastIn0To60Days() {
        NoonRinger x = Check.of(FROM_DAY_60.replace("60", "59"));
        CHECK.due("p in 0", x.year(0, 0, 20), 0);
        CHECK.due("p in 1", x.year(0, 1, 20), 20);
        CHECK.due("p in 60", x.year(0, 60, 20), 20);
        CHECK.due("q in 59", x.year(1, 59, 20), 0);
        CHECK.due("q in 60", x.year(1, 60, 20), 20);
        x.days(5);
        CHECK.due("p rang ahead of it", x.year(0, 0, 1), 0);
        x.days(55);
        CHECK.due("which does not count", x.year(0, 60, 20), 0);
    }

    /** Promise 36: "YEAR; NONE: no such ones." */
    static void yearNoSuchOnes() {
        NoonRinger x = Check.of(LINE);
        for (int wrong : WRONG_PEOPLE) {
            CHECK.due("year(" + wrong + ", 1, 1)", x.year(wrong, 1, 1), -1);
        }
        for (int wrong : WRONG_DAYS) {
            CHECK.due("year(1, " + wrong + ", 1)", x.year(1, wrong, 1), -1);
        }
        for (int wrong : new int[] {0, -1, -2, 21, 22, 60, MIN, MAX}) {
            CHECK.due("year(1, 1, " + wrong + ")", x.year(1, 1, wrong), -1);
        }
        CHECK.due("no people", new NoonRinger().year(0, 1, 1), -1);
    }

    // ---- Terms, part IV, and promises 37 to 40 ----

    /** Terms IV: "TOLD: that a RINGER struck v (0 .. 999) times or more, or did not". */
    static void toldOf0To999Strokes() {
        NoonRinger x = new NoonRinger();
        CHECK.due("0", x.tell(0, true), 0);
        CHECK.due("999", x.tell(999, false), 1);
        CHECK.due("one and the same", x.tell(999, false), 2);
        for (int wrong : new int[] {-1, -2, 1000, 1001, MIN, MAX}) {
            CHECK.due("tell(" + wrong + ", true)", x.tell(wrong, true), -1);
            CHECK.due("tell(" + wrong + ", false)", x.tell(wrong, false), -1);
        }
        CHECK.due("nothing happens", x.count(10), 3);
    }

    /**
     * Terms IV: "20 at most, numbered from 0 on", promise 37: "its number; NONE, and nothing happens: 20 are there, no
     * such v."
     */
    static void told20AtMost() {
        NoonRinger x = Check.of(LINE);
        for (int i = 0; i < 20; i++) {
            CHECK.due("tell", x.tell(i < 19 ? 0 : 6, true), i);
        }
        String before = Check.all(x);
        CHECK.due("20 are there", x.tell(999, true), -1);
        CHECK.due("20 are there", x.tell(999, false), -1);
        CHECK.due("nothing happens", Check.all(x), before);
        CHECK.due("19 of them", x.whence(19, 1, 1), 7);
        CHECK.due("the 20th", x.whence(20, 1, 1), 4);
        CHECK.due("to tell is no thing done", x.undo(), false);
    }

    /** Promise 38: "All that was TOLD is forgotten: how many there were." */
    static void forgetTellsHowMany() {
        NoonRinger x = Check.of(LINE);
        CHECK.due("none", x.forget(), 0);
        x.tell(6, true);
        x.tell(999, true);
        CHECK.due("two", x.forget(), 2);
        CHECK.due("none are left", x.count(10), 0);
        CHECK.due("none are known", x.whence(1, 1, 1), -1);
        CHECK.due("all is as if none was told", x.whence(0, 1, 1), 7);
        CHECK.due("from 0 on again", x.tell(0, true), 0);
        CHECK.due("which is another one", x.whence(1, 1, 1), 7);
        for (int i = 1; i < 20; i++) {
            x.tell(5, true);
        }
        CHECK.due("twenty", x.forget(), 20);
        CHECK.due("none", x.forget(), 0);
    }

    /** Terms IV: "times or more, or did not". */
    static void toldOrMoreOrNot() {
        NoonRinger x = Check.of(LINE);
        // STROKES of any, were a, b, c their home: 0, 5, 12
        int[] v = {0, 1, 5, 6, 12, 13, 999};
        int[] so = {7, 6, 6, 4, 4, 0, 0};
        for (int i = 0; i < v.length; i++) {
            x.tell(v[i], true);
            CHECK.due(v[i] + " or more", x.whence(1, 0, 1), so[i]);
            x.forget();
            x.tell(v[i], false);
            CHECK.due("not " + v[i], x.whence(1, 0, 1), 7 - so[i]);
            x.forget();
        }
        x = Check.of("town a; town b; person p 0 a a;");
        x.tell(999, true);
        CHECK.due("999 of b", x.whence(1, 0, 1), 2);
    }

    /** Terms IV: "KNOWN by k: the first k." */
    static void knownByK() {
        NoonRinger x = Check.of(LINE);
        x.tell(5, true);
        x.tell(12, false);
        x.tell(6, true);
        int[] due = {7, 6, 2, 0};
        for (int k = 0; k <= 3; k++) {
            CHECK.due("whence(" + k + ", 1, 1)", x.whence(k, 1, 1), due[k]);
            CHECK.due("whence(" + k + ", 1, 0)", x.whence(k, 1, 0), Integer.bitCount(due[k]));
        }
        CHECK.due("known by 4", x.whence(4, 1, 1), -1);
    }

    /** Terms IV: "WHENCE .. were they that one's HOME (all else as now; walked, too), by STROKES now". */
    static void whenceIsAllElseAsNow() {
        NoonRinger x = Check.of(LINE + "claims = far * 2; strokes = claim + walked * 100 + day + there;");
        x.send(0, 2);
        x.days(2);
        CHECK.due("p walked 7", x.person(0, 4), 7);
        // of p: 703, and claims of 0, 10, 24 more
        x.tell(703, true);
        x.tell(704, true);
        x.tell(713, true);
        x.tell(714, true);
        x.tell(727, true);
        x.tell(728, true);
        int[] due = {7, 7, 6, 6, 4, 4, 0};
        for (int k = 0; k < due.length; k++) {
            CHECK.due("whence(" + k + ", 0, 1)", x.whence(k, 0, 1), due[k]);
        }
        CHECK.due("home is as it was", x.person(0, 1), 1);
        x = Check.of(LINE + "strokes = walked + 3;");
        x.send(1, 1);
        x.days(1);
        x.tell(8, true);
        CHECK.due("walked, even at the town where q is", x.whence(1, 1, 1), 7);
    }

    /** Promise 39: "WHENCE, as KNOWN by k: what 0 how many, 1 which (bits); NONE: no such ones." */
    static void whenceNoSuchOnes() {
        NoonRinger x = Check.of(LINE);
        x.tell(5, true);
        for (int wrong : new int[] {-1, -2, 2, 20, 21, MIN, MAX}) {
            CHECK.due("whence(" + wrong + ", 0, 0)", x.whence(wrong, 0, 0), -1);
        }
        for (int wrong : WRONG_PEOPLE) {
            CHECK.due("whence(0, " + wrong + ", 0)", x.whence(0, wrong, 0), -1);
        }
        for (int wrong : WRONG_WHATS) {
            CHECK.due("whence(0, 0, " + wrong + ")", x.whence(0, 0, wrong), -1);
        }
        CHECK.due("no people", new NoonRinger().whence(0, 0, 0), -1);
        NoonRinger seven = Check.of(ROUND + "person p 0 a a;");
        CHECK.due("all seven", seven.whence(0, 0, 1), 127);
        CHECK.due("seven", seven.whence(0, 0, 0), 7);
    }

    private static void listensFor(String strokes, int due) {
        NoonRinger x = Check.of("town a; town b; town c; town d; road a b 1; road a c 2; road a d 3;"
            + " person p 0 b a; strokes = " + strokes + ";");
        CHECK.due("listen where strokes = " + strokes, x.listen(0, 0), due);
    }

    /** Terms IV: "LISTEN of a PERSON: the v (1 .. 999) of which .. fewest are left, at worst; of alike ones the least." */
    static void listenFor1To999() {
        // far is 0, 1, 2, 3
        listensFor("far * 10", 11);
        listensFor("far * 10 + 1", 12);
        listensFor("7", 1);
        listensFor("0", 1);
        listensFor("999", 1);
        listensFor("if far < 2 then 0 else 1", 1);
        listensFor("if far < 2 then 998 else 999", 999);
        listensFor("if far < 3 then 998 else 999", 999);
        listensFor("if far < 1 then 4 else 9", 5);
        listensFor("if far < 3 then 0 else 9", 1);
        listensFor("if far < 1 then 0 else if far < 3 then 5 else 9", 1);
        listensFor("if far < 1 then 3 else if far < 3 then 5 else 9", 4);
        NoonRinger x = Check.of(LINE);
        CHECK.due("of 0, 5, 12", x.listen(0, 0), 1);
        x.tell(1, true);
        CHECK.due("of 5, 12", x.listen(1, 0), 6);
        x.tell(6, true);
        CHECK.due("of 12", x.listen(2, 0), 1);
        CHECK.due("as known by 1 still", x.listen(1, 0), 6);
    }

    /** Promise 40: "LISTEN, as KNOWN by k; -2: none is left; NONE: no such ones." */
    static void listenNoneIsLeftOrNoSuchOnes() {
        NoonRinger x = Check.of(LINE);
        x.tell(0, false);
        CHECK.due("none is left", x.listen(1, 0), -2);
        CHECK.due("known by 0", x.listen(0, 0), 1);
        for (int wrong : new int[] {-1, -2, 2, 20, 21, MIN, MAX}) {
            CHECK.due("listen(" + wrong + ", 0)", x.listen(wrong, 0), -1);
        }
        for (int wrong : WRONG_PEOPLE) {
            CHECK.due("listen(1, " + wrong + ")", x.listen(1, wrong), -1);
        }
        CHECK.due("no people", new NoonRinger().listen(0, 0), -1);
    }

    /** Terms IV: "Where NONE and -2 could both be told, it is NONE, if it is not told otherwise." */
    static void noneIsAheadOfMinus2() {
        NoonRinger x = new NoonRinger();
        for (int wrong : WRONG_WHATS) {
            CHECK.due("stranger(" + wrong + "), no people", x.stranger(wrong), -1);
            CHECK.due("centre(" + wrong + "), no towns", x.centre(wrong), -1);
            CHECK.due("meet(" + wrong + "), no towns", x.meet(wrong), -1);
        }
        CHECK.due("rings(61), nobody", x.rings(61), -1);
        CHECK.due("longest, no towns", x.longest(0, 1), -1);
        CHECK.due("steps, no towns", x.steps(0, 0), -1);
        x = Check.of("town a; town b; person p 0 a b; person q 0 a b;");
        CHECK.due("when, not", x.when(2), -1);
        CHECK.due("soonest, not", x.soonest(2), -1);
        CHECK.due("walks, none", x.walks(2), -1);
        CHECK.due("steps to no such town, never", x.steps(0, 2), -1);
        CHECK.due("steps of no such person, never", x.steps(2, 0), -1);
        CHECK.due("longest to no such town, no way", x.longest(0, 2), -1);
        CHECK.due("person, nowhere", x.person(2, 3), -1);
        x.tell(0, false);
        CHECK.due("listen, none is left", x.listen(1, 2), -1);
        CHECK.due("listen, none is left", x.listen(2, 0), -1);
    }
}
