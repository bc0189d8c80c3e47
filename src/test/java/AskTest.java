/** Promises 14 to 40: what is asked, of now, of later, of strokes that were counted. */
public final class AskTest {
    private static final Check CHECK = new Check();
    private static final int[] WRONG = {-1, -2, 99, Integer.MIN_VALUE, Integer.MAX_VALUE};

    public static void main(String[] args) {
        noTownsNoPeople();
        wrongOnes();
        ringer();
        farAndLongest();
        liarsAndTruth();
        turnsAndWish();
        whenAndSoonest();
        oftenAndRings();
        walks();
        stranger();
        clerks();
        centreAndMeet();
        treeAndBridges();
        steps();
        inSomeDays();
        year();
        nothingHappens();
        telling();
        whence();
        listen();
        CHECK.end();
    }

    private static void noTownsNoPeople() {
        NoonRinger x = new NoonRinger();
        CHECK.due("ringer", x.ringer(), -2);
        CHECK.due("far", x.far(0, 0), -1);
        CHECK.due("longest", x.longest(0, 0), -1);
        CHECK.due("liars", x.liars(), 0);
        CHECK.due("truth", x.truth(), -2);
        CHECK.due("turns", x.turns(), 0);
        CHECK.due("wish", x.wish(0), -1);
        CHECK.due("when", x.when(0), -1);
        CHECK.due("soonest", x.soonest(0), -1);
        CHECK.due("often", x.often(0, 1), -1);
        CHECK.due("rings", x.rings(60), -2);
        CHECK.due("walks", x.walks(0), -1);
        for (int what = 0; what < 2; what++) {
            CHECK.due("stranger", x.stranger(what), -2);
            CHECK.due("clerks", x.clerks(what), 0);
            CHECK.due("centre", x.centre(what), -2);
            CHECK.due("meet", x.meet(what), -2);
        }
        CHECK.due("tree", x.tree(), -2);
        CHECK.due("bridges", x.bridges(), 0);
        CHECK.due("steps", x.steps(0, 0), -1);
        CHECK.due("then", x.then(0, 0), -1);
        CHECK.due("rungIn", x.rungIn(0, 0), -1);
        CHECK.due("barredIn", x.barredIn(60), 0);
        CHECK.due("year", x.year(0, 1, 1), -1);
        CHECK.due("whence", x.whence(0, 0, 0), -1);
        CHECK.due("listen", x.listen(0, 0), -1);
        // where NONE and -2 could both be told, it is NONE
        CHECK.due("stranger(2)", x.stranger(2), -1);
        CHECK.due("centre(2)", x.centre(2), -1);
        CHECK.due("meet(2)", x.meet(2), -1);
        CHECK.due("rings(61)", x.rings(61), -1);
        x = Check.of("town a;");
        CHECK.due("no people", x.ringer(), -2);
        CHECK.due("no people", x.stranger(0), -2);
        CHECK.due("no people", x.stranger(1), -2);
        CHECK.due("no people", x.meet(0), 0);
        CHECK.due("no people", x.meet(1), 0);
        CHECK.due("one town", x.centre(0), 0);
        CHECK.due("one town", x.centre(1), 0);
        CHECK.due("one town", x.tree(), 0);
        CHECK.due("one town", x.longest(0, 0), 0);
        CHECK.due("one town", x.far(0, 0), 0);
        CHECK.due("no such town", x.far(0, 1), -1);
    }

    private static void wrongOnes() {
        NoonRinger x = Check.of(Samples.FIVE_TOWNS);
        x.tell(3, true);
        for (int wrong : WRONG) {
            CHECK.due("far", x.far(wrong, 0), -1);
            CHECK.due("far", x.far(0, wrong), -1);
            CHECK.due("longest", x.longest(wrong, 0), -1);
            CHECK.due("longest", x.longest(0, wrong), -1);
            CHECK.due("wish", x.wish(wrong), -1);
            CHECK.due("when", x.when(wrong), -1);
            CHECK.due("soonest", x.soonest(wrong), -1);
            CHECK.due("often", x.often(wrong, 1), -1);
            CHECK.due("often", x.often(0, wrong), -1);
            CHECK.due("rings", x.rings(wrong), -1);
            CHECK.due("walks", x.walks(wrong), -1);
            CHECK.due("stranger", x.stranger(wrong), -1);
            CHECK.due("clerks", x.clerks(wrong), -1);
            CHECK.due("centre", x.centre(wrong), -1);
            CHECK.due("meet", x.meet(wrong), -1);
            CHECK.due("steps", x.steps(wrong, 0), -1);
            CHECK.due("steps", x.steps(0, wrong), -1);
            CHECK.due("then", x.then(wrong, 0), -1);
            CHECK.due("then", x.then(0, wrong), -1);
            CHECK.due("rungIn", x.rungIn(wrong, 0), -1);
            CHECK.due("rungIn", x.rungIn(0, wrong), -1);
            CHECK.due("barredIn", x.barredIn(wrong), -1);
            CHECK.due("year", x.year(wrong, 1, 1), -1);
            CHECK.due("year", x.year(0, wrong, 1), -1);
            CHECK.due("year", x.year(0, 1, wrong), -1);
            CHECK.due("whence", x.whence(wrong, 0, 0), -1);
            CHECK.due("whence", x.whence(0, wrong, 0), -1);
            CHECK.due("whence", x.whence(0, 0, wrong), -1);
            CHECK.due("listen", x.listen(wrong, 0), -1);
            CHECK.due("listen", x.listen(0, wrong), -1);
        }
        for (int just : new int[] {61, 60, 0}) {
            boolean good = just < 61;
            CHECK.due("rings", x.rings(just) != -1, good);
            CHECK.due("often", x.often(0, just) != -1, good);
            CHECK.due("then", x.then(0, just) != -1, good);
            CHECK.due("rungIn", x.rungIn(0, just) != -1, good);
            CHECK.due("barredIn", x.barredIn(just) != -1, good);
            CHECK.due("year", x.year(0, just, 20) != -1, good);
        }
        CHECK.due("no seeds", x.year(0, 1, 0), -1);
        CHECK.due("21 seeds", x.year(0, 1, 21), -1);
        CHECK.due("person 3", x.when(3) + x.soonest(3) + x.wish(3) + x.walks(3) + x.then(3, 1), -5);
        CHECK.due("town 5", x.far(5, 0) + x.far(0, 5) + x.longest(5, 5) + x.steps(0, 5), -4);
        CHECK.due("known by 2", x.whence(2, 0, 0), -1);
        CHECK.due("known by 2", x.listen(2, 0), -1);
        CHECK.due("what 2", x.stranger(2) + x.clerks(2) + x.centre(2) + x.meet(2) + x.whence(0, 0, 2), -5);
    }

    private static void ringer() {
        NoonRinger x = Check.of(Samples.FIVE_TOWNS);
        CHECK.due("q", x.ringer(), 1);
        x.close(0, true);
        CHECK.due("p claims 30", x.ringer(), 0);
        x = Check.of("town a; town b; road a b 9; person p 0 b b; person q 0 b a; person r 0 b a;");
        CHECK.due("of alike ones the first", x.ringer(), 1);
        x = Check.of("town a; town b; person p 0 a b;");
        CHECK.due("nobody is there", x.ringer(), -2);
        x = Check.of("town a; person p 0 a a;");
        CHECK.due("who claims 0 rings, too", x.ringer(), 0);
        x = Check.of("town a; person p 0 a a; person q 5 a a; claims = honest - 5;");
        CHECK.due("claims are held ahead", x.ringer(), 0);
        x = Check.of("town a; person p 0 a a; person q 5 a a; claims = 2000 + honest;");
        CHECK.due("claims are held ahead", x.ringer(), 0);
        x = Check.of(Samples.TWO_LIARS);
        x.days(3);
        CHECK.due("q is barred", x.ringer(), 0);
    }

    private static void farAndLongest() {
        NoonRinger x = Check.of(Samples.FIVE_TOWNS);
        int[][] far = {{0, 4, 9, 14, 999}, {4, 0, 6, 11, 999}, {9, 6, 0, 5, 999}, {14, 11, 5, 0, 999}, {999, 999, 999, 999, 0}};
        int[][] longest = {{0, 31, 25, 20, -2}, {31, 0, 29, 35, -2}, {25, 29, 0, 30, -2}, {20, 35, 30, 0, -2}, {-2, -2, -2, -2, 0}};
        for (int i = 0; i < 5; i++) {
            for (int j = 0; j < 5; j++) {
                CHECK.due("far(" + i + ", " + j + ")", x.far(i, j), far[i][j]);
                CHECK.due("longest(" + i + ", " + j + ")", x.longest(i, j), longest[i][j]);
            }
        }
        x.close(3, true);
        CHECK.due("longest without the long road", x.longest(0, 1), 15);
        x = Check.of("town a; town b; road a b 3; road b a 8; road a b 5;");
        CHECK.due("the shortest of three", x.far(0, 1), 3);
        CHECK.due("the longest of three", x.longest(1, 0), 8);
        CHECK.due("to itself", x.longest(1, 1), 0);
        x = Check.of("town a; town b; town c; town d; town e; town f; town g;"
            + "road a b 99; road b c 99; road c d 99; road d e 99; road e f 99; road f g 99; road g a 1;");
        CHECK.due("round it is", x.longest(0, 6), 594);
        CHECK.due("near it is", x.far(0, 6), 1);
        x.close(6, true);
        CHECK.due("far it is", x.far(6, 0), 594);
    }

    private static void liarsAndTruth() {
        NoonRinger x = Check.of(Samples.FIVE_TOWNS);
        CHECK.due("p and r lie", x.liars(), 5);
        CHECK.due("q would ring", x.truth(), 1);
        x.close(0, true);
        CHECK.due("q would ring, not p", x.truth() * 10 + x.ringer(), 0);
        x.close(1, true);
        CHECK.due("p 999 * 2, held to 999, is no lie", x.liars(), 4);
        x = Check.of(Samples.TWO_LIARS);
        CHECK.due("both lie", x.liars(), 3);
        CHECK.due("of alike ones the first", x.truth(), 0);
        CHECK.due("who claims more", x.ringer(), 1);
        x.days(4);
        CHECK.due("both are barred", x.truth(), -2);
        CHECK.due("and lie", x.liars(), 3);
        CHECK.due("not in the capital", Check.of("town a; town b; person p 1 a b;").truth(), -2);
    }

    private static void turnsAndWish() {
        NoonRinger x = Check.of(Samples.FIVE_TOWNS);
        CHECK.due("turns", x.turns(), 1);
        CHECK.due("wish(0)", x.wish(0), 1);
        CHECK.due("wish(1)", x.wish(1), 30);
        CHECK.due("wish(2)", x.wish(2), 0);
        x.close(0, true);
        CHECK.due("a closed one does not turn it", x.turns() & 1, 0);
        CHECK.due("nor is it wished for", (x.wish(0) | x.wish(1)) & 1, 0);
        // p 30 by c; without b c p claims 999, without c a 49 * 2, without c d or a d q 14 or 20
        CHECK.due("turns", x.turns(), 0);
        CHECK.due("wish(0)", x.wish(0), 30);
        x = Check.of(Samples.FIVE_TOWNS.replace("claims = if honest < 5 then far * 2 else far", "claims = 50 - far"));
        CHECK.due("the laws are asked anew", x.turns() * 100 + x.wish(1), 101);
        x = Check.of("town a; town b; road a b 5; person p 0 b b;");
        CHECK.due("nobody", x.turns() + x.wish(0), 0);
    }

    private static void whenAndSoonest() {
        NoonRinger x = Check.of(Samples.FIVE_TOWNS);
        CHECK.due("when(0)", x.when(0), -2);
        CHECK.due("when(1)", x.when(1), 0);
        CHECK.due("when(2)", x.when(2), -2);
        CHECK.due("soonest(0)", x.soonest(0), -2);
        CHECK.due("soonest(1)", x.soonest(1), 0);
        CHECK.due("soonest(2)", x.soonest(2), 1);
        x.send(2, 3);
        CHECK.due("when(2) elsewhere", x.when(2), -2);
        CHECK.due("soonest(2) nevertheless", x.soonest(2), 1);
        x.send(2, 0);
        CHECK.due("when(2)", x.when(2), 1);
        x.send(1, 4);
        x.send(2, 4);
        CHECK.due("q stays: no way", x.when(0), -2);
        x.send(1, 3);
        CHECK.due("q goes", x.when(0), 1);
        CHECK.due("q is told to stay", x.soonest(0), 1);
        String days = "town a; person p 0 a a; person q 0 a a; claims = if day < 60 then 1 - which else which;";
        CHECK.due("behind 60 days", Check.of(days).when(1), 60);
        CHECK.due("behind 61", Check.of(days.replace("60", "61")).when(1), -2);
        CHECK.due("behind 60 days", Check.of(days).soonest(1), 60);
        x = Check.of("town a; town b; road a b 5; person p 0 a a; person q 0 b a; claims = honest + (1 - which) * 9;");
        x.send(0, 1);
        CHECK.due("who is there is told to stay", x.soonest(0), 0);
        CHECK.due("p goes", x.when(1), 1);
        CHECK.due("q is there, p goes all the same", x.soonest(1), 1);
        x = Check.of(Samples.TWO_LIARS.replace("doubts = 50", "doubts = 100"));
        CHECK.due("nobody is found out", x.when(0), -2);
        CHECK.due("nobody is found out", x.rings(60), 1);
        x.days(1);
        CHECK.due("who is barred stays so", x.when(1), -2);
        CHECK.due("who is barred stays so", x.soonest(1), -2);
        CHECK.due("p", x.when(0), 0);
        x = Check.of("town a; person p 0 a a; person q 0 a a; claims = if rung < 3 then 9 else 0; gifts = 5;");
        CHECK.due("they ring and rung grows", x.when(1), 3);
        x = Check.of("town a; person p 0 a a; person q 0 a a; claims = if purse < 15 then 9 else 0; gifts = 5;");
        CHECK.due("their purse, too", x.when(1), 3);
    }

    private static void oftenAndRings() {
        NoonRinger x = Check.of(Samples.FIVE_TOWNS);
        CHECK.due("often(1, 60)", x.often(1, 60), 60);
        CHECK.due("often(1, 0)", x.often(1, 0), 0);
        x.send(2, 0);
        CHECK.due("often(1, 60)", x.often(1, 60), 1);
        CHECK.due("often(2, 60), nobody being found out", x.often(2, 60), 59);
        CHECK.due("rings(0)", x.rings(0), 1);
        CHECK.due("rings(1)", x.rings(1), 2);
        CHECK.due("rings(60)", x.rings(60), 2);
        x.days(2);
        CHECK.due("only what is to come", x.often(1, 5), 0);
        CHECK.due("only what is to come", x.often(2, 5), 5);
        CHECK.due("nobody", Check.of("town a; town b; person p 1 a b;").rings(3), -2);
    }

    private static void walks() {
        NoonRinger x = Check.of(Samples.FIVE_TOWNS);
        CHECK.due("stays", x.walks(2), -2);
        x.send(2, 0);
        CHECK.due("by a b", x.walks(2), 0);
        x.send(2, 3);
        CHECK.due("by b c", x.walks(2), 1);
        x.send(2, 4);
        CHECK.due("no way", x.walks(2), -2);
    }

    private static void stranger() {
        NoonRinger x = Check.of(Samples.FIVE_TOWNS);
        CHECK.due("q", x.stranger(0), 1);
        CHECK.due("14", x.stranger(1), 14);
        x.close(0, true);
        CHECK.due("p", x.stranger(0), 0);
        CHECK.due("15", x.stranger(1), 15);
        x = Check.of("town a; town b; road a b 5; person p 1 a a; person q 1 b b; person r 1 b a;");
        CHECK.due("anywhere, of alike ones the first", x.stranger(0), 1);
        x = Check.of("town a; town b; person p 1 a a; person q 1 b a;");
        CHECK.due("no way", x.stranger(1), 999);
        x = Check.of("town a; person p 1 a a;");
        CHECK.due("0 is most", x.stranger(0) * 10 + x.stranger(1), 0);
        x = Check.of(Samples.TWO_LIARS);
        x.days(4);
        CHECK.due("barred or not", x.stranger(0), 0);
    }

    private static void clerks() {
        NoonRinger x = Check.of(Samples.FIVE_TOWNS);
        CHECK.due("two", x.clerks(0), 2);
        CHECK.due("a and c", x.clerks(1), 5);
        x.close(3, true);
        x.close(4, true);
        x.close(0, true);
        CHECK.due("one", x.clerks(0), 1);
        CHECK.due("c", x.clerks(1), 4);
        x.close(1, true);
        CHECK.due("of c and d the least bits", x.clerks(1), 4);
        x.close(2, true);
        CHECK.due("none", x.clerks(0) + x.clerks(1), 0);
        x = Check.of("town a; town b; town c; town d; town e; town f; town g; road a b 1; road b c 1; road c d 1;"
            + "road d e 1; road e f 1; road f g 1; road g a 1;");
        NoonRinger all = Check.of("town a; town b; town c; town d; road a b 1; road a c 1; road a d 1; road b c 1;"
            + "road b d 1; road c d 1;");
        CHECK.due("each with each", all.clerks(0), 3);
        CHECK.due("the least bits", all.clerks(1), 7);
        CHECK.due("round seven towns", x.clerks(0), 4);
        CHECK.due("the least bits", x.clerks(1), 1 + 2 + 8 + 32);
    }

    private static void centreAndMeet() {
        NoonRinger x = Check.of(Samples.FOUR_TOWNS);
        CHECK.due("centre", x.centre(0), 2);
        CHECK.due("how much", x.centre(1), 9);
        CHECK.due("meet", x.meet(0), 0);
        CHECK.due("how much", x.meet(1), 4);
        x.send(0, 3);
        x.send(1, 3);
        x.days(1);
        CHECK.due("meet", x.meet(0), 2);
        CHECK.due("how much", x.meet(1), 6);
        x = Check.of(Samples.FIVE_TOWNS);
        CHECK.due("e lies apart", x.centre(0), 0);
        CHECK.due("how much", x.centre(1), 999);
        CHECK.due("nobody is there", x.meet(0), 0);
        x = Check.of("town a; town b; town c; road b c 4; person p 1 c c; person q 1 b b;");
        CHECK.due("of alike ones the first", x.meet(0), 1);
        CHECK.due("how much", x.meet(1), 4);
        x = Check.of("town a; town b; person p 1 a a; person q 1 b b;");
        CHECK.due("999 is added", x.meet(1), 999);
    }

    private static void treeAndBridges() {
        NoonRinger x = Check.of(Samples.FOUR_TOWNS);
        CHECK.due("4, 5 and 6", x.tree(), 15);
        CHECK.due("no bridges", x.bridges(), 0);
        x.close(3, true);
        CHECK.due("c d", x.bridges(), 4);
        x.close(1, true);
        CHECK.due("a b, c d, c a", x.bridges(), 1 + 4 + 16);
        CHECK.due("4, 5 and 9", x.tree(), 18);
        x.close(0, true);
        CHECK.due("not all", x.tree(), -2);
        CHECK.due("c d, c a", x.bridges(), 4 + 16);
        CHECK.due("e lies apart", Check.of(Samples.FIVE_TOWNS).tree(), -2);
        x = Check.of("town a; town b; road a b 7; road b a 3;");
        CHECK.due("two roads between them", x.bridges(), 0);
        CHECK.due("the shorter one", x.tree(), 3);
        x.close(1, true);
        CHECK.due("the other one", x.bridges() * 10 + x.tree(), 17);
        x = Check.of("town a; town b; town c; town d; road c d 1; road a b 2; road a d 50; road b c 3;");
        CHECK.due("joined from two sides", x.tree(), 6);
    }

    private static void steps() {
        NoonRinger x = Check.of(Samples.FIVE_TOWNS);
        CHECK.due("there", x.steps(2, 1), 0);
        CHECK.due("by c", x.steps(2, 3), 2);
        CHECK.due("one", x.steps(2, 0), 1);
        CHECK.due("by c, though there is a road", x.steps(0, 3), 2);
        CHECK.due("never", x.steps(0, 4), -2);
        x.send(0, 1);
        CHECK.due("sent elsewhere", x.steps(0, 3), 2);
        x.close(4, true);
        CHECK.due("by b and c", x.steps(0, 3), 3);
        x = Check.of("town a; town b; town c; town d; town e; town f; town g; road a b 1; road b c 1; road c d 1;"
            + "road d e 1; road e f 1; road f g 1; road g a 7; person p 1 a a;");
        CHECK.due("six", x.steps(0, 6), 6);
        x = Check.of("town a; town b; town c; town d; town e; town f; town g; road a b 1; road b c 1; road c d 1;"
            + "road d e 1; road e f 1; road f g 1; road g a 6; person p 1 a a;");
        CHECK.due("of alike ones the first road", x.steps(0, 6), 6);
    }

    private static void inSomeDays() {
        NoonRinger x = Check.of(Samples.TWO_LIARS);
        x.send(1, 1);
        x.send(1, -1);
        CHECK.due("barredIn(2)", x.barredIn(2), 0);
        CHECK.due("barredIn(3)", x.barredIn(3), 2);
        CHECK.due("barredIn(4)", x.barredIn(4), 3);
        CHECK.due("barredIn(0)", x.barredIn(0), 0);
        CHECK.due("rungIn(1, 60)", x.rungIn(1, 60), 2);
        CHECK.due("rungIn(0, 60)", x.rungIn(0, 60), 0);
        x.days(1);
        CHECK.due("so far and by then", x.rungIn(1, 60), 2);
        CHECK.due("so far", x.rungIn(1, 0), 1);
        x.days(3);
        CHECK.due("barredIn(0)", x.barredIn(0), 3);
        x = Check.of(Samples.FIVE_TOWNS);
        x.send(2, 3);
        CHECK.due("then(2, 0)", x.then(2, 0), 1);
        CHECK.due("then(2, 1)", x.then(2, 1), 2);
        CHECK.due("then(2, 2)", x.then(2, 2), 3);
        CHECK.due("then(2, 60)", x.then(2, 60), 3);
        CHECK.due("then(0, 60)", x.then(0, 60), 0);
        x.send(2, 0);
        // r claims 18, a lie; on days 1, 2 the lots 10 and 18 of seed 7 are 84 and 17
        CHECK.due("found out", x.barredIn(2) * 10 + x.barredIn(3), 4);
        CHECK.due("rings once", x.rungIn(2, 60), 1);
        CHECK.due("then q again", x.rungIn(1, 60), 59 - 1);
    }

    private static void year() {
        NoonRinger x = Check.of(Samples.TWO_LIARS);
        // the lots of q on day 0, seeds 7 to 19: 99 81 62 72 4 62 82 78 32 78 33 35 38
        int[] rings = {1, 2, 3, 4, 4, 5, 6, 7, 7, 8, 8, 8, 8};
        for (int s = 1; s <= rings.length; s++) {
            CHECK.due("year(1, 1, " + s + ")", x.year(1, 1, s), rings[s - 1]);
        }
        CHECK.due("not in no days", x.year(1, 0, 20), 0);
        CHECK.due("p on no day 0", x.year(0, 1, 20), 0);
        // p on day 1 where q is barred at once: seeds 11, 15, 17, 18, 19 with lots 30 91 74 77 53
        CHECK.due("p on day 1", x.year(0, 2, 13), 4);
        x.days(1);
        CHECK.due("what was rung ahead does not count", x.year(0, 1, 20), 0);
        // the lots of q on day 1, seeds 7 to 10: 76 62 52 66
        CHECK.due("year(1, 1, 4)", x.year(1, 1, 4), 4);
        CHECK.due("seeds go on behind 9999", Check.of(Samples.TWO_LIARS.replace("seed 7", "seed 9999")).year(1, 1, 20),
            seedsFrom(9999));
        CHECK.due("once at least", Check.of("town a; person p 1 a a;").year(0, 60, 20), 20);
    }

    private static int seedsFrom(int seed) {
        int found = 0;
        for (int more = 0; more < 20; more++) {
            int h = seed + more;
            for (int it : new int[] {191, 1}) {
                h = (h ^ it) * 1103515245 + 12345;
                h ^= h >>> 15;
            }
            found += (h >>> 1) % 100 < 50 ? 0 : 1;
        }
        return found;
    }

    private static void nothingHappens() {
        NoonRinger x = Check.of(Samples.FIVE_TOWNS);
        x.send(2, 0);
        x.send(0, 3);
        int before = sumOfAll(x);
        x.when(1);
        x.soonest(2);
        x.often(1, 60);
        x.rings(60);
        x.then(0, 60);
        x.rungIn(2, 60);
        x.barredIn(60);
        x.year(1, 60, 20);
        x.turns();
        x.wish(1);
        x.bridges();
        x.longest(0, 3);
        x.whence(0, 1, 1);
        x.listen(0, 1);
        x.steps(2, 3);
        CHECK.due("all is as it was", sumOfAll(x), before);
        CHECK.due("things done", x.count(9), 2);
    }

    private static int sumOfAll(NoonRinger x) {
        int sum = 0;
        for (int what = 0; what < 17; what++) {
            sum = sum * 31 + x.count(what);
        }
        for (int i = 0; i < 5; i++) {
            for (int what = 0; what < 13; what++) {
                sum = sum * 31 + x.person(i, what);
                sum = sum * 31 + x.town(i, what);
                sum = sum * 31 + x.road(i, what);
            }
        }
        return sum;
    }

    private static void telling() {
        NoonRinger x = new NoonRinger();
        for (int wrong : new int[] {-1, 1000, Integer.MIN_VALUE, Integer.MAX_VALUE}) {
            CHECK.due("tell(wrong)", x.tell(wrong, true), -1);
        }
        CHECK.due("nothing is told", x.forget(), 0);
        for (int i = 0; i < 20; i++) {
            CHECK.due("tell", x.tell(i % 2 * 999, i % 3 == 0), i);
        }
        CHECK.due("20 are there", x.tell(5, true), -1);
        CHECK.due("count(10)", x.count(10), 20);
        CHECK.due("forget", x.forget(), 20);
        CHECK.due("count(10)", x.count(10), 0);
        CHECK.due("forget", x.forget(), 0);
        CHECK.due("from 0 on again", x.tell(0, false), 0);
        CHECK.due("is no thing done", x.count(9), 0);
    }

    private static void whence() {
        NoonRinger x = Check.of(Samples.FIVE_TOWNS);
        // STROKES of p, were a, b, c, d, e their home: 0 4 9 14 499; of q: 0 2 4 7 499
        x.tell(9, true);
        x.tell(14, false);
        x.tell(10, true);
        x.tell(5, false);
        int[][] bits = {{31, 28, 4, 0, 0}, {31, 16, 0, 0, 0}};
        for (int person = 0; person < 2; person++) {
            for (int k = 0; k <= 4; k++) {
                CHECK.due("whence(" + k + ", " + person + ", 1)", x.whence(k, person, 1), bits[person][k]);
                CHECK.due("whence(" + k + ", " + person + ", 0)", x.whence(k, person, 0), Integer.bitCount(bits[person][k]));
            }
        }
        CHECK.due("known by 5", x.whence(5, 0, 0), -1);
        x.forget();
        x.tell(0, true);
        CHECK.due("all strike 0 times or more", x.whence(1, 0, 1), 31);
        x.tell(0, false);
        CHECK.due("none does not", x.whence(2, 0, 1), 0);
        x = Check.of("town a; town b; town c; road a b 5; road b c 5; person p 1 b b; strokes = far + walked * 10;");
        x.send(0, 2);
        x.days(1);
        x.tell(50, true);
        x.tell(51, true);
        x.tell(60, true);
        CHECK.due("walked is as now, though c were home", x.whence(1, 0, 1), 7);
        CHECK.due("a strikes 50", x.whence(2, 0, 1), 6);
        CHECK.due("c strikes 60", x.whence(3, 0, 1), 4);
    }

    private static void listen() {
        NoonRinger x = Check.of(Samples.FIVE_TOWNS);
        CHECK.due("of 0 4 9 14 499", x.listen(0, 0), 5);
        CHECK.due("of 0 2 4 7 499", x.listen(0, 1), 3);
        x.tell(9, true);
        CHECK.due("of 9 14 499", x.listen(1, 0), 10);
        x.tell(14, false);
        CHECK.due("of 9", x.listen(2, 0), 1);
        x.tell(14, true);
        CHECK.due("none is left", x.listen(3, 0), -2);
        CHECK.due("of 499", x.listen(1, 1), 1);
        x = Check.of("town a; town b; person p 1 b b; strokes = if far < 1 then 998 else 1000;");
        CHECK.due("998 or 999", x.listen(0, 0), 999);
        x = Check.of("town a; town b; person p 1 b b; strokes = 7;");
        CHECK.due("all alike", x.listen(0, 0), 1);
    }
}
