/** Promises 6 to 13 and 41 to 43: what is looked at, done by hand, gone through, undone, held and counted. */
public final class DoneTest {
    private static final Check CHECK = new Check();
    private static final int[] WRONG = {-1, -2, 99, Integer.MIN_VALUE, Integer.MAX_VALUE};

    public static void main(String[] args) {
        townsAndRoads();
        people();
        sending();
        closing();
        admitting();
        daysGoBy();
        walking();
        comingHome();
        purses();
        doubts();
        lots();
        undoing();
        holding();
        counting();
        CHECK.end();
    }

    private static void townsAndRoads() {
        NoonRinger x = Check.of(Samples.FIVE_TOWNS);
        int[][] towns = {{1, 25, 3, 0, -1}, {0, 3, 4, 4, -1}, {0, 22, 0, 9, -1}, {0, 12, 0, 14, -1}, {0, 0, 0, 999, -1}};
        for (int town = 0; town < 5; town++) {
            for (int what = 0; what < 5; what++) {
                CHECK.due("town(" + town + ", " + what + ")", x.town(town, what), towns[town][what]);
            }
        }
        int[][] roads = {{0, 1, 4, 1, -1}, {1, 2, 6, 1, -1}, {2, 3, 5, 1, -1}, {0, 3, 20, 1, -1}, {2, 0, 9, 1, -1}};
        for (int road = 0; road < 5; road++) {
            for (int what = 0; what < 5; what++) {
                CHECK.due("road(" + road + ", " + what + ")", x.road(road, what), roads[road][what]);
            }
        }
        CHECK.due("town(5, 0)", x.town(5, 0), -1);
        CHECK.due("road(5, 0)", x.road(5, 0), -1);
        for (int wrong : WRONG) {
            CHECK.due("town(wrong, 0)", x.town(wrong, 0), -1);
            CHECK.due("town(0, wrong)", x.town(0, wrong), -1);
            CHECK.due("road(wrong, 0)", x.road(wrong, 0), -1);
            CHECK.due("road(0, wrong)", x.road(0, wrong), -1);
            CHECK.due("person(wrong, 0)", x.person(wrong, 0), -1);
            CHECK.due("person(0, wrong)", x.person(0, wrong), -1);
            CHECK.due("count(wrong)", x.count(wrong), -1);
        }
    }

    private static void people() {
        NoonRinger x = Check.of(Samples.FIVE_TOWNS);
        int[][] due = {
            {3, 1, 0, -2, 0, 0, 0, 0, 4, 8, 4, 3, 50, -1},
            {7, 3, 0, -2, 0, 0, 0, 0, 14, 14, 7, 3, 50, -1},
            {0, 2, 1, -2, 0, 0, 0, 0, 9, 18, 9, 3, 50, -1}};
        for (int person = 0; person < 3; person++) {
            for (int what = 0; what < 14; what++) {
                CHECK.due("person(" + person + ", " + what + ")", x.person(person, what), due[person][what]);
            }
        }
        CHECK.due("person(3, 0)", x.person(3, 0), -1);
        laws();
    }

    private static int law(String law, String e) {
        NoonRinger x = Check.of("town a; town b; road a b 30; person p 4 b a; person q 6 b b; claims = 1;"
            + law + " = " + e + ";");
        return x.person(0, law.equals("claims") ? 9 : law.equals("strokes") ? 10 : law.equals("gifts") ? 11 : 12);
    }

    private static void claims(String e, int due) {
        CHECK.due("claims = " + e, law("claims", e), due);
    }

    private static void laws() {
        claims("999", 999);
        claims("1000", 999);
        claims("0 - 1", 0);
        claims("9 - 2 - 3", 4);
        claims("9 - (2 - 3)", 10);
        claims("2 + 3 * 4", 14);
        claims("(2 + 3) * 4", 20);
        claims("2 * 3 + 4 * 5 - 6 / 2", 23);
        claims("100 / 7 / 2 * 3", 21);
        claims("(0 - 7) / 2 + 10", 7);
        claims("7 / (0 - 2) + 10", 7);
        claims("1 - 1 + 1 - 1 + 1", 1);
        // 9999 * 9999 * 43 = 4299140043, which wraps to 4172747; times 22 it wraps below 0
        claims("9999 * 9999 * 43 / 4299", 970);
        claims("9999 * 9999 * 43 / 5000", 834);
        claims("(0 - 9999 * 9999 * 22) / 9999", 999);
        claims("9999 * 9999 * 22", 0);
        // 8192 * 8192 * 32 wraps to the least int, that by -1 to itself
        claims("8192 * 8192 * 32 / (0 - 1) + 2147 * 1000 * 1000 + 483 * 1000 + 648 + 5", 5);
        claims("far / 0", 0);
        claims("5 + 0 * (1 / (far - 30))", 0);
        claims("if 1 < 2 then 5 else 1 / 0", 5);
        claims("if 2 < 1 then 1 / 0 else 6", 6);
        claims("if 1 / 0 < 5 then 7 else 8", 0);
        claims("if 1 < 1 then 7 else 8", 8);
        claims("if 0 - 1 < 1 then 7 else 8", 7);
        claims("if 2 < 1 then 5 else if 1 < 2 then 6 else 1 / 0", 6);
        claims("if 1 < 2 then 5 else if 1 / 0 < 2 then 6 else 7", 5);
        claims("if 1 + 2 * 3 < 8 - 2 * 0 then far + 1 else 0", 31);
        claims("1+1*(1+1*(1+1*(1+1*(1+1*(1+1*(1+1*9))))))", 16);
        claims("if 1+1*(1+1*(1+1*(1+1*(1+1*(1+1*(1+1*8)))))) < 1+1*(1+1*(1+1*(1+1*(1+1*(1+1*(1+1*9)))))) then 3 else 4", 3);
        claims("far", 30);
        claims("honest", 4);
        claims("walked + rung + day + which + claim + purse", 0);
        claims("there", 1);
        CHECK.due("which", Check.of("town a; person p 1 a a; person q 1 a a; claims = which;").person(1, 9), 1);
        CHECK.due("strokes are held to 999", law("strokes", "1000"), 999);
        CHECK.due("and to 0", law("strokes", "claim - 2"), 0);
        CHECK.due("claim in strokes", law("strokes", "claim + 4"), 5);
        CHECK.due("gifts are held to 99", law("gifts", "100"), 99);
        CHECK.due("gifts 99", law("gifts", "99"), 99);
        CHECK.due("gifts are held to 0", law("gifts", "0 - claim"), 0);
        CHECK.due("doubts are held to 100", law("doubts", "101"), 100);
        CHECK.due("doubts are held to 0", law("doubts", "0 - 9"), 0);
        NoonRinger x = Check.of("town a; person p 1 a a; claims = 5000; strokes = claim / 3; gifts = claim / 500; doubts = claim / 20 - 9;");
        CHECK.due("claim is held", x.person(0, 10), 333);
        CHECK.due("claim is held in gifts", x.person(0, 11), 1);
        CHECK.due("claim is held in doubts", x.person(0, 12), 40);
        x = Check.of("town a; person p 1 a a; claims = claim + 3; strokes = claim * 10;");
        CHECK.due("claim in claims is 0", x.person(0, 9), 3);
        CHECK.due("not behind another law either", x.person(0, 10) * 100 + x.person(0, 9), 3003);
        x = Check.of("town a; person p 1 a a; claims = 7; strokes = rung * 100 + day * 10 + purse; gifts = 4;");
        x.days(2);
        CHECK.due("rung, day and purse", x.person(0, 10), 228);
        CHECK.due("as the noon began", x.count(5), 114);
    }

    private static void sending() {
        NoonRinger x = Check.of(Samples.FIVE_TOWNS);
        CHECK.due("sent", x.send(2, 3), true);
        CHECK.due("goes", x.person(2, 3), 3);
        CHECK.due("goers", x.count(15), 4);
        CHECK.due("it is so", x.send(2, 3), false);
        CHECK.due("they are there, though they go elsewhere", x.send(2, 1), false);
        CHECK.due("goes still", x.person(2, 3), 3);
        CHECK.due("sent elsewhere", x.send(2, 4), true);
        CHECK.due("told to stay", x.send(2, -1), true);
        CHECK.due("nowhere", x.person(2, 3), -2);
        CHECK.due("stays already", x.send(2, -1), false);
        CHECK.due("stays already", x.send(0, -1), false);
        CHECK.due("there", x.send(0, 0), false);
        CHECK.due("no such person", x.send(3, 0), false);
        CHECK.due("no such person", x.send(-1, 0), false);
        CHECK.due("no such town", x.send(0, 5), false);
        CHECK.due("no such town", x.send(0, -2), false);
        CHECK.due("things done", x.count(9), 3);
        CHECK.due("the day", x.count(3), 0);
    }

    private static void closing() {
        NoonRinger x = Check.of(Samples.FIVE_TOWNS);
        CHECK.due("open already", x.close(0, false), false);
        CHECK.due("closed", x.close(0, true), true);
        CHECK.due("closed already", x.close(0, true), false);
        CHECK.due("road(0, 3)", x.road(0, 3), 0);
        CHECK.due("road(0, 2)", x.road(0, 2), 4);
        CHECK.due("closed ones", x.count(7), 1);
        CHECK.due("open miles", x.count(16), 40);
        CHECK.due("town(0, 1)", x.town(0, 1), 24);
        CHECK.due("far", x.far(1, 0), 15);
        CHECK.due("claims", x.person(0, 9), 30);
        CHECK.due("ringer", x.ringer(), 0);
        CHECK.due("opened", x.close(0, false), true);
        CHECK.due("far", x.far(1, 0), 4);
        CHECK.due("no such road", x.close(5, true), false);
        CHECK.due("no such road", x.close(-1, true), false);
        CHECK.due("no such road", x.close(-1, false), false);
        CHECK.due("no such road", x.close(99, false), false);
        CHECK.due("things done", x.count(9), 2);
    }

    private static void admitting() {
        NoonRinger x = Check.of(Samples.TWO_LIARS);
        CHECK.due("not barred", x.admit(1), false);
        x.days(3);
        CHECK.due("barred", x.count(6), 2);
        CHECK.due("person(1, 7)", x.person(1, 7), 1);
        CHECK.due("person(0, 7)", x.person(0, 7), 0);
        CHECK.due("no such person", x.admit(2), false);
        CHECK.due("no such person", x.admit(-1), false);
        CHECK.due("p is not", x.admit(0), false);
        CHECK.due("admitted", x.admit(1), true);
        CHECK.due("barred", x.count(6), 0);
        CHECK.due("person(1, 7)", x.person(1, 7), 0);
        CHECK.due("rings", x.ringer(), 1);
        CHECK.due("things done", x.count(9), 2);
    }

    private static void daysGoBy() {
        NoonRinger x = Check.of(Samples.FIVE_TOWNS);
        CHECK.due("days(0)", x.days(0), 0);
        CHECK.due("is no thing done", x.count(9), 0);
        for (int wrong : new int[] {-1, 61, Integer.MIN_VALUE, Integer.MAX_VALUE}) {
            CHECK.due("days(wrong)", x.days(wrong), -1);
        }
        CHECK.due("days(1)", x.days(1), 1);
        CHECK.due("who rang", x.count(4), 1);
        CHECK.due("strokes", x.count(5), 7);
        CHECK.due("rung", x.person(1, 5), 1);
        CHECK.due("purse", x.person(1, 6), 3);
        CHECK.due("gifts", x.person(1, 11), 4);
        CHECK.due("others have not", x.person(0, 5) + x.person(2, 5) + x.person(0, 6) + x.person(2, 6), 0);
        CHECK.due("days(60)", x.days(60), 61);
        CHECK.due("rung", x.person(1, 5), 61);
        CHECK.due("days(0)", x.days(0), 61);
        CHECK.due("things done", x.count(9), 2);
        x = Check.of("town a; town b; person p 1 b b;");
        CHECK.due("nobody is there", x.days(2), 2);
        CHECK.due("nobody rang", x.count(4), -2);
        CHECK.due("no strokes", x.count(5), 0);
    }

    private static void walking() {
        NoonRinger x = Check.of(Samples.FIVE_TOWNS);
        x.send(0, 3);
        x.send(2, 4);
        CHECK.due("by c, which is 9 + 5, not by 20", x.walks(0), 4);
        CHECK.due("no way", x.walks(2), -2);
        x.days(1);
        CHECK.due("at c", x.person(0, 2), 2);
        CHECK.due("walked", x.person(0, 4), 9);
        CHECK.due("goes on", x.person(0, 3), 3);
        CHECK.due("stays where there is no way", x.person(2, 2), 1);
        CHECK.due("but goes", x.person(2, 3), 4);
        x.days(1);
        CHECK.due("at d", x.person(0, 2), 3);
        CHECK.due("walked", x.person(0, 4), 14);
        CHECK.due("goes no more", x.person(0, 3), -2);
        CHECK.due("goers", x.count(15), 4);
        x.days(5);
        CHECK.due("stays there", x.person(0, 2), 3);
        CHECK.due("walked", x.person(0, 4), 14);
        x = Check.of("town a; town b; town c; road a b 5; road b a 5; road a b 4; road a c 2; road c b 2;"
            + "person p 1 c a; claims = walked;");
        x.send(0, 1);
        CHECK.due("of alike ones the first", x.walks(0), 2);
        x.close(2, true);
        CHECK.due("the shorter way", x.walks(0), 3);
        x.close(4, true);
        CHECK.due("of alike ones the first", x.walks(0), 0);
        x.close(0, true);
        CHECK.due("the other one", x.walks(0), 1);
        x.days(1);
        CHECK.due("claims what they walked", x.person(0, 9), 5);
        CHECK.due("does not walk now", x.walks(0), -2);
    }

    private static void comingHome() {
        NoonRinger x = Check.of(Samples.FIVE_TOWNS);
        x.send(0, 2);
        x.close(4, true);
        CHECK.due("by b, their home", x.walks(0), 0);
        x.days(1);
        CHECK.due("at home", x.person(0, 2), 1);
        CHECK.due("walked none", x.person(0, 4), 0);
        x.days(1);
        CHECK.due("from home", x.person(0, 4), 6);
        x.send(0, 1);
        x.days(1);
        CHECK.due("home again", x.person(0, 4), 0);
    }

    private static void purses() {
        NoonRinger x = Check.of("town a; person p 1 a a; gifts = 250; claims = 5;");
        for (int i = 0; i < 16; i++) {
            x.days(60);
        }
        x.days(50);
        CHECK.due("1,010 days", x.person(0, 6), 99990);
        x.days(1);
        CHECK.due("no more than 99,999", x.person(0, 6), 99999);
        x.days(60);
        CHECK.due("no more than 99,999", x.person(0, 6), 99999);
        CHECK.due("purses", x.count(14), 99999);
        CHECK.due("rung", x.person(0, 5), 1071);
    }

    private static void doubts() {
        NoonRinger x = Check.of(Samples.TWO_LIARS);
        x.send(1, 1);
        x.send(1, -1);
        x.days(2);
        CHECK.due("99 and 76 are not below 50", x.person(1, 5), 2);
        x.send(1, 1);
        x.days(1);
        CHECK.due("6 is", x.count(6), 2);
        CHECK.due("nobody rang", x.count(4), -2);
        CHECK.due("no strokes", x.count(5), 0);
        CHECK.due("nor gifts", x.person(1, 6), 2);
        CHECK.due("rung", x.person(1, 5), 2);
        CHECK.due("they walk all the same", x.person(1, 2), 1);
        CHECK.due("p would ring", x.ringer(), 0);
        x.days(1);
        CHECK.due("26 is below 50", x.count(6), 3);
        CHECK.due("nobody", x.ringer(), -2);
        x.days(1);
        CHECK.due("nobody rang", x.count(4), -2);
        CHECK.due("who does not lie is not doubted",
            Check.of(Samples.TWO_LIARS.replace("far + honest", "far").replace("50", "100")).barredIn(60), 0);
    }

    private static int barredAtOnce(int doubts, int seed) {
        NoonRinger x = Check.of(Samples.TWO_LIARS.replace("50", "" + doubts).replace("seed 7", "seed " + seed));
        x.days(1);
        return x.count(6);
    }

    /** The lots of person 1 on day 0, counted by hand from the rule. */
    private static void lots() {
        int[] lots = {36, 23, 72, 24, 24, 19, 29, 99, 81, 62, 72, 4, 62, 82, 78, 32, 78, 33, 35, 38};
        for (int seed = 0; seed < lots.length; seed++) {
            CHECK.due("not below a lot, seed " + seed, barredAtOnce(lots[seed], seed), 0);
            CHECK.due("one above a lot, seed " + seed, barredAtOnce(lots[seed] + 1, seed), 2);
        }
        CHECK.due("lot 0 of seed 9999", barredAtOnce(0, 9999), 0);
        CHECK.due("lot 0 of seed 9999", barredAtOnce(1, 9999), 2);
    }

    private static void undoing() {
        NoonRinger x = Check.of(Samples.TWO_LIARS);
        x.tell(3, true);
        x.hold(2);
        CHECK.due("nothing done", x.undo(), false);
        x.days(2);
        x.days(2);
        CHECK.due("barred", x.count(6), 3);
        x.admit(1);
        x.close(0, true);
        x.send(0, 1);
        CHECK.due("send", x.undo(), true);
        CHECK.due("nobody goes", x.count(15), 0);
        CHECK.due("close", x.undo(), true);
        CHECK.due("open", x.road(0, 3), 1);
        CHECK.due("far", x.far(0, 1), 9);
        CHECK.due("admit", x.undo(), true);
        CHECK.due("barred", x.count(6), 3);
        CHECK.due("days", x.undo(), true);
        CHECK.due("barred", x.count(6), 0);
        CHECK.due("day", x.count(3), 2);
        CHECK.due("who rang", x.count(4), 1);
        CHECK.due("strokes", x.count(5), 9);
        CHECK.due("left", x.count(9), 1);
        CHECK.due("days", x.undo(), true);
        CHECK.due("who rang", x.count(4), -2);
        CHECK.due("purses", x.count(14), 0);
        CHECK.due("none left", x.undo(), false);
        CHECK.due("told", x.count(10), 1);
        CHECK.due("held", x.count(11), 1);
        for (int i = 1; i <= 45; i++) {
            x.days(1);
            CHECK.due("things done", x.count(9), Math.min(i, 40));
        }
        for (int i = 44; i >= 5; i--) {
            CHECK.due("undo", x.undo(), true);
            CHECK.due("day", x.count(3), i);
        }
        CHECK.due("only 40", x.undo(), false);
        CHECK.due("day", x.count(3), 5);
        x.days(3);
        x.undo();
        x.days(4);
        CHECK.due("undone, done", x.count(3) * 100 + x.count(9), 901);
    }

    private static void holding() {
        NoonRinger x = Check.of(Samples.FIVE_TOWNS);
        for (int wrong : new int[] {-1, 3, Integer.MIN_VALUE, Integer.MAX_VALUE}) {
            CHECK.due("hold(wrong)", x.hold(wrong), false);
            CHECK.due("restore(wrong)", x.restore(wrong), false);
        }
        CHECK.due("nothing is held", x.restore(0), false);
        x.send(2, 0);
        x.close(0, true);
        x.days(1);
        CHECK.due("hold", x.hold(0), true);
        CHECK.due("hold is no thing done", x.count(9), 3);
        x.close(0, false);
        x.days(3);
        x.send(2, 3);
        x.hold(2);
        x.tell(7, false);
        Check.feed(x, "xyz");
        CHECK.due("held", x.count(11), 2);
        CHECK.due("restore(1)", x.restore(1), false);
        CHECK.due("restore", x.restore(0), true);
        int[] due = {5, 5, 3, 1, 0, 15, 0, 1, 3, 0, 1, 2, 3, 1, 3, 4, 40};
        for (int what = 0; what < due.length; what++) {
            CHECK.due("restored count(" + what + ")", x.count(what), due[what]);
        }
        CHECK.due("far", x.far(0, 1), 15);
        CHECK.due("undo", x.undo(), false);
        x.days(2);
        CHECK.due("it stays there", x.restore(0), true);
        CHECK.due("day", x.count(3), 1);
        CHECK.due("the other", x.restore(2), true);
        CHECK.due("day", x.count(3), 4);
        CHECK.due("goes", x.person(2, 3), 3);
        CHECK.due("open", x.count(7), 0);
        x.hold(0);
        x.days(1);
        x.restore(0);
        CHECK.due("held anew", x.count(3), 4);
    }

    private static void counting() {
        NoonRinger x = Check.of(Samples.FIVE_TOWNS);
        x.send(2, 0);
        x.send(0, 4);
        x.close(3, true);
        x.days(2);
        int[] due = {5, 5, 3, 2, 2, 9, 0, 8, 0, 4, 0, 0, 7, 2, 6, 1, 24, -1};
        for (int what = 0; what < due.length; what++) {
            CHECK.due("count(" + what + ")", x.count(what), due[what]);
        }
        x.days(1);
        CHECK.due("r is found out, as lot 18 of seed 7 is 17", x.count(6), 4);
        CHECK.due("who rang", x.count(4), -2);
        CHECK.due("strokes", x.count(5), 0);
    }
}
