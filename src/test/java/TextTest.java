/** Promises 1 to 5: a new object, the tape, texts and their faults. */
public final class TextTest {
    private static final Check CHECK = new Check();

    public static void main(String[] args) {
        newObject();
        feedAndBack();
        readEmptiesTheTape();
        faultsOfSyntax();
        placesOfTokens();
        faultsOfRoom();
        faultsOfNames();
        namesAreToldApart();
        faultsOfNumbers();
        whichFaultIsFirst();
        goodTexts();
        aFaultChangesNothing();
        aTextBeginsAnew();
        CHECK.end();
    }

    private static void fault(String text, int number, int place) {
        CHECK.fault(text, number, place);
    }

    private static void good(String text) {
        CHECK.good(text);
    }

    private static void newObject() {
        NoonRinger x = new NoonRinger();
        int[] due = {0, 0, 0, 0, -2, 0, 0, 0, 0, 0, 0, 0, 0, 0, 0, 0, 0, -1};
        for (int what = 0; what < due.length; what++) {
            CHECK.due("new count(" + what + ")", x.count(what), due[what]);
        }
        CHECK.due("new count(-1)", x.count(-1), -1);
        CHECK.due("new place()", x.place(), -1);
        CHECK.due("NONE", NoonRinger.NONE, -1);
    }

    private static void feedAndBack() {
        NoonRinger x = new NoonRinger();
        CHECK.due("back(0) of nothing", x.back(0), 0);
        CHECK.due("back(1) of nothing", x.back(1), -1);
        for (int i = 1; i <= 100; i++) {
            CHECK.due("feed " + i, x.feed(0x20202020, 0x20202020, 0x20202020, 0x20202020, 0x20202020), 20 * i);
        }
        CHECK.due("feed to 2,020", x.feed(0, 0, 0, 0, 0), -1);
        CHECK.due("count(8)", x.count(8), 2000);
        CHECK.due("back(2001)", x.back(2001), -1);
        CHECK.due("back(-1)", x.back(-1), -1);
        CHECK.due("back(MIN)", x.back(Integer.MIN_VALUE), -1);
        CHECK.due("back(19)", x.back(19), 1981);
        CHECK.due("feed to 2,001", x.feed(0, 0, 0, 0, 0), -1);
        CHECK.due("back(1)", x.back(1), 1980);
        CHECK.due("feed to 2,000", x.feed(0x20202020, 0x20202020, 0x20202020, 0x20202020, 0x20202020), 2000);
        CHECK.due("read of blanks", x.read(), 0);
        CHECK.due("the tape is empty", x.count(8), 0);
        // t o w n | _ a ; _ | ...: the highest byte first, with bytes of all five ints
        CHECK.due("feed", x.feed(0x746f776e, 0x20613b20, 0x726f6164, 0x20622061, 0x20393bff), 20);
        CHECK.due("back(1)", x.back(1), 19);
        CHECK.due("read", x.read(), 4);
        CHECK.due("place", x.place(), 13);
    }

    private static void readEmptiesTheTape() {
        NoonRinger x = new NoonRinger();
        Check.feed(x, "town");
        CHECK.due("read", x.read(), 1);
        CHECK.due("place", x.place(), 4);
        CHECK.due("count(8) behind a fault", x.count(8), 0);
        CHECK.due("read of nothing", x.read(), 0);
        CHECK.due("place is of the latest", x.place(), -1);
        Check.feed(x, "town a;");
        CHECK.due("place is not changed by feed", x.place(), -1);
        CHECK.due("read", x.read(), 0);
        CHECK.due("count(0)", x.count(0), 1);
        CHECK.due("count(8)", x.count(8), 0);
        CHECK.due("read of nothing", x.read(), 0);
        CHECK.due("an empty text has no towns", x.count(0), 0);
    }

    private static void faultsOfSyntax() {
        fault("x", 1, 0);
        fault(";", 1, 0);
        fault("7", 1, 0);
        fault("town", 1, 4);
        fault("town  \n", 1, 7);
        fault("town a", 1, 6);
        fault("town a;;", 1, 7);
        fault("town 5;", 1, 5);
        fault("town far;", 1, 5);
        fault("town purse;", 1, 5);
        fault("town then;", 1, 5);
        fault("town a b;", 1, 7);
        fault("TOWN a;", 1, 0);
        fault("town abcdefghi;", 1, 5);
        fault("town a; .", 1, 8);
        fault("town a\u00e9;", 1, 6);
        fault("town a\u0000;", 1, 6);
        fault("town a\u000b;", 1, 6);
        fault("seed 12345;", 1, 5);
        fault("seed a;", 1, 5);
        fault("seed = 1;", 1, 5);
        fault("town a; road a a;", 1, 16);
        fault("person p a a 1;", 1, 9);
        fault("capital town;", 1, 8);
        fault("claims far;", 1, 7);
        fault("claims = ;", 1, 9);
        fault("claims = far far;", 1, 13);
        fault("claims = name;", 1, 9);
        fault("claims = far +;", 1, 14);
        fault("claims = - far;", 1, 9);
        fault("claims = far < 3;", 1, 13);
        fault("claims = (far;", 1, 13);
        fault("claims = far);", 1, 12);
        fault("claims = ();", 1, 10);
        fault("claims = ((far)", 1, 15);
        fault("claims = if far then 1 else 2;", 1, 16);
        fault("claims = if far < 1 then 1;", 1, 26);
        fault("claims = if far < 1 else 1;", 1, 20);
        fault("claims = if 1 < 2 < 3 then 1 else 2;", 1, 18);
        fault("claims = if (1 < 2) then 1 else 2;", 1, 15);
        fault("claims = 1 + if far < 1 then 1 else 2;", 1, 13);
        fault("claims = if 1 < 2 then if 1 < 2 then 3 else 4 else 5;", 1, 23);
        fault("claims = 12345;", 1, 9);
        fault("claims = 3 far;", 1, 11);
    }

    private static void placesOfTokens() {
        fault("town a;\n\t\r road b a 5;", 4, 16);
        fault("town a;road a b5;", 4, 14);
        good("town a;town b;road a b5;");
        good("\ttown\na\r;town abcdefgh;road a abcdefgh 0099;");
        good("seed 0000;seed9999;");
    }

    private static String many(String tell, int times) {
        StringBuilder so = new StringBuilder();
        for (int i = 0; i < times; i++) {
            so.append(tell.replace('#', (char) ('a' + i)));
        }
        return so.toString();
    }

    private static void faultsOfRoom() {
        good(many("town t#;", 7));
        fault(many("town t#;", 8), 2, 56);
        fault(many("town t#;", 7) + " town", 2, 57);
        fault(many("town t;", 7) + "town x;", 2, 49);
        good("town a;town b;" + many("road a b 5;", 10));
        fault("town a;town b;" + many("road a b 5;", 11), 2, 14 + 110);
        good("town a;" + many("person p# 5 a a;", 6));
        fault("town a;" + many("person p# 5 a a;", 7), 2, 7 + 96);
        good(many("capital a;", 0) + "town a;" + many("capital a;", 20) + many("seed 1;", 20) + many("gifts=1;", 20));
        String ifs = "if 1<2 then 3 else ";
        good("claims = " + many(ifs, 4) + "5; strokes = " + many(ifs, 4) + "5;");
        fault("claims = " + many(ifs, 5) + "5;", 2, 9 + 4 * ifs.length());
        good("doubts = " + many("(", 6) + "1" + many(")", 6) + ";");
        fault("doubts = " + many("(", 7) + "1" + many(")", 7) + ";", 2, 15);
        fault("doubts = " + many("(", 6) + "1+(", 2, 17);
        good("doubts = " + many("(", 6) + "1" + many(")", 6) + "*" + many("(", 6) + "1" + many(")", 6) + ";");
        good("doubts = if " + many("(", 6) + "1" + many(")", 6) + "<(1) then 2 else 3;");
        // 4 + 2 * 198 tokens: 400
        good("claims=1" + many("+1", 198) + ";");
        fault("claims=1" + many("+1", 198) + ";seed 1;", 2, 8 + 396 + 1);
        fault("claims=1" + many("+1", 199) + ";", 2, 8 + 2 * 198 + 1);
        // a 401st that no text goes on with; what is no token; the end of 400 tokens
        fault("claims=1" + many("+1", 198) + "; x", 1, 8 + 396 + 2);
        fault("claims=1" + many("+1", 198) + ";!", 1, 8 + 396 + 1);
        fault("claims=1" + many("+1", 198) + "+", 1, 8 + 396 + 1);
        fault("claims=1" + many("+1", 198) + " 1", 1, 8 + 396 + 1);
        fault("claims=1" + many("+1", 198) + "; seed", 2, 8 + 396 + 2);
        fault("claims=1" + many("+1", 198) + "; town", 2, 8 + 396 + 2);
        fault("claims=1" + many("+1", 198) + "; townabcde", 1, 8 + 396 + 2);
        fault(many(";", 2000), 1, 0);
    }

    private static void faultsOfNames() {
        fault("town a; town b; town a;", 3, 21);
        fault("town a; person a 3 a a;", 3, 15);
        fault("town a; person p 3 a a; person p 3 a a;", 3, 31);
        fault("town a; person p 3 a a; town p;", 3, 29);
        fault("town a; road a a 5;", 3, 15);
        fault("town a; town b; road b b 5;", 3, 23);
        fault("road a a 5;", 4, 5);
        fault("town a; road a b 5; town b;", 4, 15);
        fault("town a; road b a 5;", 4, 13);
        fault("capital a;", 4, 8);
        fault("town a; person p 3 b a;", 4, 19);
        fault("town a; person p 3 a b;", 4, 21);
        fault("town a; person p 3 p a;", 4, 19);
        fault("town a; person p 3 a a; capital p;", 4, 32);
        fault("capital a; town a;", 4, 8);
        fault("town abcdefgh; capital abcdefg;", 4, 23);
    }

    private static void namesAreToldApart() {
        good("town a; town aa; town aaaaaaaa; town z; town ba; town az; town b;");
        good("town abcdefgh; town bcdefgh; town abcdefg; town townx; town tow; town ifthen; town fart;");
        NoonRinger x = Check.of("town a; town aa; town az; town ba; town z; road aa ba 5; road z az 6;");
        CHECK.due("aa to ba", x.road(0, 0) * 10 + x.road(0, 1), 13);
        CHECK.due("z to az", x.road(1, 0) * 10 + x.road(1, 1), 42);
    }

    private static void faultsOfNumbers() {
        String two = "town a; town b; ";
        good(two + "road a b 1; road b a 99; road a b 0001;");
        fault(two + "road a b 0;", 5, 25);
        fault(two + "road a b 100;", 5, 25);
        good(two + "person p 0 a a; person q 9 a a; person r 0009 a a;");
        fault(two + "person p 10 a a;", 5, 25);
        fault(two + "person p 9999 a a;", 5, 25);
        good("claims = 0; doubts = 9999; seed 9999; seed 0;");
    }

    private static void whichFaultIsFirst() {
        // syntax and room come ahead of all others, wherever they stand
        fault("town a; town a; town", 1, 20);
        fault("capital z; seed 1", 1, 17);
        fault("town a; person p 77 z a; claims = (((((((", 2, 40);
        fault("town a; road a a 500; !", 1, 22);
        // among the others the first by its place
        fault("town a; road a z 0;", 4, 15);
        fault("town a; road a a 0;", 3, 15);
        fault("town a; person a 10 z z;", 3, 15);
        fault("town a; person p 10 z z;", 5, 17);
        fault("town a; person p 1 z z; town a;", 4, 19);
        // of syntax and room the first by its place, too
        fault("! claims = (((((((", 1, 0);
        fault("claims = ((((((( !", 2, 15);
        fault("claims = (((((( !", 1, 16);
    }

    private static void goodTexts() {
        NoonRinger x = Check.of(Samples.FIVE_TOWNS);
        CHECK.due("towns", x.count(0), 5);
        CHECK.due("roads", x.count(1), 5);
        CHECK.due("people", x.count(2), 3);
        x = Check.of("person p 1 a a;".replace("person", "town a; town b; person") + "capital b; gifts=5; gifts=6; seed 1; seed 2; capital a; capital b;");
        CHECK.due("the last capital", x.town(1, 0), 1);
        CHECK.due("not the first", x.town(0, 0), 0);
        CHECK.due("the last law", x.person(0, 11), 6);
        x = Check.of("town a; town b; road a b 7; person p 4 b a;");
        CHECK.due("the first town is the capital", x.town(0, 0), 1);
        CHECK.due("claims if not told", x.person(0, 9), 7);
        CHECK.due("strokes if not told", x.person(0, 10), 7);
        CHECK.due("gifts if not told", x.person(0, 11), 1);
        CHECK.due("doubts if not told", x.person(0, 12), 0);
        // 9 tokens and 3 more of the law: 387 for 194 units and what is between them
        x = Check.of("town a; person p 1 a a; claims = 1" + many(" + 1", 193) + ";");
        CHECK.due("a law of 390 tokens", x.person(0, 9), 194);
        x = Check.of(Samples.TWO_LIARS.replace("seed 7;", "").replace("50", "36"));
        x.days(1);
        CHECK.due("the seed is 0 if not told, its lot 36", x.count(6), 0);
        x = Check.of(Samples.TWO_LIARS.replace("seed 7;", "").replace("50", "37"));
        x.days(1);
        CHECK.due("the seed is 0 if not told, its lot 36", x.count(6), 2);
    }

    private static void aFaultChangesNothing() {
        NoonRinger x = Check.of(Samples.FIVE_TOWNS);
        x.send(2, 0);
        x.close(3, true);
        x.days(2);
        x.hold(1);
        x.tell(5, true);
        Check.feed(x, "town z; town y; person p 0 z z; claims = 5; town z;");
        CHECK.due("read", x.read(), 3);
        int[] due = {5, 5, 3, 2, 2, 9, 0, 8, 0, 3, 1, 1, 7, 2, 6, 0, 24};
        for (int what = 0; what < due.length; what++) {
            CHECK.due("behind a fault count(" + what + ")", x.count(what), due[what]);
        }
        CHECK.due("claims", x.person(1, 9), 14);
        CHECK.due("undo", x.undo(), true);
    }

    private static void aTextBeginsAnew() {
        NoonRinger x = Check.of(Samples.TWO_LIARS);
        x.close(0, true);
        x.days(9);
        x.send(1, 1);
        x.hold(0);
        x.tell(5, true);
        Check.feed(x, "town a; town b; road a b 9; person p 3 b a; claims = 4;");
        CHECK.due("read", x.read(), 0);
        int[] due = {2, 1, 1, 0, -2, 0, 0, 0, 0, 0, 0, 0, 1, 0, 0, 0, 9};
        for (int what = 0; what < due.length; what++) {
            CHECK.due("anew count(" + what + ")", x.count(what), due[what]);
        }
        CHECK.due("undo", x.undo(), false);
        CHECK.due("restore", x.restore(0), false);
        CHECK.due("road", x.road(0, 3), 1);
        CHECK.due("claims", x.person(0, 9), 4);
        CHECK.due("doubts as if not told", x.person(0, 12), 0);
        CHECK.due("walked", x.person(0, 4), 0);
        CHECK.due("goes", x.person(0, 3), -2);
    }
}
