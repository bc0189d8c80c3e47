import java.util.Arrays;
import java.util.List;

/**
 * "What it is", part I of "Terms" and promises 1 to 5: each sentence of the document that names a boundary has a test
 * of its own here, with that sentence ahead of it.
 */
public final class TextBoundsTest {
    private static final Check CHECK = new Check();
    private static final List<String> TELL_WORDS = List.of(
        "town", "road", "person", "capital", "claims", "strokes", "gifts", "doubts", "seed");
    private static final List<String> LAW_WORDS = List.of("if", "then", "else");
    private static final List<String> VARS = List.of(
        "far", "walked", "honest", "rung", "day", "which", "claim", "there", "purse");
    private static final String SIGNS = ";=+-*/<()";
    private static final String TWO = "town a; town b; ";
    /** LOT 100 of the seeds 0, 1, 2, 3 and of 9999 for person 0 on day 0, reckoned apart from the class. */
    private static final int[] LOT_OF_SEED = {81, 56, 31, 63};
    private static final int LOT_OF_SEED_9999 = 21;
    private static final int MIN = Integer.MIN_VALUE;
    private static final int MAX = Integer.MAX_VALUE;

    public static void main(String[] args) throws ReflectiveOperationException {
        CHECK.runAll(TextBoundsTest.class);
    }

    private static void fault(String text, int number, int place) {
        CHECK.fault(text, number, place);
    }

    private static void good(String text) {
        CHECK.good(text);
    }

    /** A fault at the end of the text. */
    private static void cutShort(String text) {
        fault(text, 1, text.length());
    }

    /** Each # of what is written again and again is another letter. */
    private static String many(String so, int times) {
        StringBuilder all = new StringBuilder();
        for (int i = 0; i < times; i++) {
            all.append(so.replace('#', (char) ('a' + i)));
        }
        return all.toString();
    }

    private static List<String> words() {
        String all = String.join(" ", TELL_WORDS) + " " + String.join(" ", LAW_WORDS) + " " + String.join(" ", VARS);
        return List.of(all.split(" "));
    }

    /** Each word, each sign, a NAME, an INT, and some that are no TOKEN. */
    private static List<String> tokensOfAllKinds() {
        String all = String.join(" ", words()) + " " + String.join(" ", SIGNS.split("")) + " zz 7 abcdefghi 12345 ! Z";
        return List.of(all.split(" "));
    }

    private static boolean isName(String token) {
        return token.matches("[a-z]{1,8}") && !words().contains(token);
    }

    private static boolean isInt(String token) {
        return token.matches("[0-9]{1,4}");
    }

    private static boolean canBeginUnit(String token) {
        return isInt(token) || VARS.contains(token) || token.equals("(");
    }

    // ---- What it is ----

    /** What it is: "An object is used for at most 512 calls after it has been made". So the 512th is answered, too. */
    static void theLastOf512CallsIsAnswered() {
        NoonRinger x = new NoonRinger();
        for (int i = 1; i < 512; i++) {
            x.days(60);
        }
        CHECK.due("the 512th days(60)", x.days(60), 512 * 60);
        x = new NoonRinger();
        x.feed(0x746f776e, 0x20613b20, 0x70657273, 0x6f6e2070, 0x20312061);
        x.feed(0x20613b20, 0x20202020, 0x20202020, 0x20202020, 0x20202020);
        CHECK.due("the third call", x.read(), 0);
        for (int i = 4; i < 511; i++) {
            x.days(60);
        }
        CHECK.due("the 511th call", x.person(0, 5), 507 * 60);
        CHECK.due("the 512th call", x.undo(), true);
    }

    /** What it is: "An object": what one is told, another one does not know. */
    static void objectsAreApart() {
        NoonRinger one = Check.of(TWO + "road a b 5; person p 5 b a; gifts = 7;");
        NoonRinger other = Check.of(TWO + "road a b 9; person p 5 a a;");
        Check.feed(one, "seed 1;");
        one.hold(0);
        one.tell(5, true);
        one.days(2);
        CHECK.due("the other one", Check.all(other), Check.all(Check.of(TWO + "road a b 9; person p 5 a a;")));
        CHECK.due("its claim", other.person(0, 9), 0);
        CHECK.due("the one", one.person(0, 9) * 100 + one.person(0, 6), 514);
    }

    // ---- Terms, part I: the text and its tokens ----

    /** Terms I: "A TEXT has 2,000 bytes at most." */
    static void aTextOf2000BytesIsRead() {
        String blanks = " ".repeat(1989);
        good(blanks + "town abcde;");
        cutShort(blanks + "town abcdef");
        NoonRinger x = Check.of("town a;" + " ".repeat(1986) + "town b;");
        CHECK.due("both are read", x.count(0), 2);
        fault("town a;" + " ".repeat(1992) + "!", 1, 1999);
    }

    /** Terms I: "TOKENS, the longest that can be". */
    static void tokensAreTheLongestThatCanBe() {
        fault("towna;", 1, 0);
        fault("town ab; capital a;", 4, 17);
        good("town ab; capital ab;");
        fault("town a; roada a 5;", 1, 8);
        fault("claims=1 2;", 1, 9);
        CHECK.due("12", Check.of("town a; person p 1 a a; claims=12;").person(0, 9), 12);
        fault("claims=fa r;", 1, 7);
        fault("claims=farfar;", 1, 7);
        // letters and digits never make one together
        good("town a;town b;road a b5;seed9;person p5a b;claims=if1<2then3else4;");
        fault("town a5;", 1, 6);
        fault("town 5a;", 1, 5);
        fault("claims=1far;", 1, 8);
        fault("claims=far1;", 1, 10);
    }

    /** Terms I: "with blanks (9, 10, 13, 32) between or not". All 256 bytes are looked at. */
    static void blanksAreFourBytes() {
        for (int b = 0; b < 256; b++) {
            boolean isBlank = b == 9 || b == 10 || b == 13 || b == 32;
            String between = "town a;" + (char) b + "town b;";
            boolean joins = b >= 'a' && b <= 'z';
            fault(between, isBlank ? 0 : 1, isBlank ? -1 : 7);
            String behind = "town a" + (char) b + ";";
            fault(behind, isBlank || joins ? 0 : 1, isBlank || joins ? -1 : b == ';' ? 7 : 6);
        }
        for (char blank : new char[] {9, 10, 13, 32}) {
            String four = "" + blank + blank + blank + blank;
            String text = " town a ; town b ; road a b 5 ; claims = if ( far ) < 1 then 2 else 3 ; ";
            good(text.replace(" ", "" + blank));
            good(text.replace(" ", four));
            fault((text + "seed").replace(" ", four), 1, (text + "seed").replace(" ", four).length());
        }
        good("town a;town b;road a b5;claims=if(far)<1then 2else 3;");
    }

    /** Terms I: "NAMES (letters a .. z". All 256 bytes are looked at. */
    static void namesAreOfLettersAToZ() {
        for (int b = 0; b < 256; b++) {
            NoonRinger x = new NoonRinger();
            Check.feed(x, "town " + (char) b + ";");
            CHECK.due("the name " + b, x.read(), b >= 'a' && b <= 'z' ? 0 : 1);
        }
        good("town az; town za; town a; town z; capital za;");
        fault("town A;", 1, 5);
        fault("town aB;", 1, 6);
        fault("town a`;", 1, 6);
        fault("town a{;", 1, 6);
        fault("Town a;", 1, 0);
    }

    /** Terms I: "8 at most" (letters of a NAME). */
    static void namesHaveEightLettersAtMost() {
        good("town abcdefgh; capital abcdefgh;");
        good("town zzzzzzzz; town zzzzzzz; town zzzzzzzy; town yzzzzzzz;");
        fault("town abcdefghi;", 1, 5);
        fault("town abcdefgh; capital abcdefghi;", 1, 23);
        fault("town abcdefgh; capital abcdefgi;", 4, 23);
        fault("town abcdefgh; capital bcdefgh;", 4, 23);
        fault("town aaaaaaaa; capital aaaaaaa;", 4, 23);
        fault("town a; person abcdefghi 5 a a;", 1, 15);
        fault("town " + "x".repeat(1990) + ";", 1, 5);
    }

    /** Terms I: "none of the words in quotes)". */
    static void wordsAreNoNames() {
        CHECK.due("words in quotes", words().size(), 21);
        for (String word : words()) {
            fault("town " + word + ";", 1, 5);
            fault("town a; capital " + word + ";", 1, 16);
            fault("town a; person " + word + " 5 a a;", 1, 15);
            fault("town a; road a " + word + " 5;", 1, 15);
            String[] near = {word + "x", "x" + word, word.substring(1), word.substring(0, word.length() - 1)};
            for (String other : near) {
                if (isName(other)) {
                    good("town " + other + ";");
                }
            }
        }
    }

    /** Terms I: "INTS (1 to 4 digits)". */
    static void intsHaveOneToFourDigits() {
        for (String number : new String[] {"0", "9", "10", "99", "100", "999", "1000", "9999", "00", "000", "0000"}) {
            good("seed " + number + ";");
        }
        fault("seed ;", 1, 5);
        fault("seed 00000;", 1, 5);
        fault("seed 10000;", 1, 5);
        fault("seed 99999;", 1, 5);
        fault("seed 0000000001;", 1, 5);
        fault("claims = 1 + 12345;", 1, 13);
        fault("seed " + "1".repeat(1990) + ";", 1, 5);
        fault("seed 1:;", 1, 6);
        fault("seed -1;", 1, 5);
        CHECK.due("0099", Check.of(TWO + "road a b 0099;").road(0, 2), 99);
        CHECK.due("0009", Check.of(TWO + "person p 0009 a a;").person(0, 0), 9);
        CHECK.due("0120", Check.of(TWO + "person p 0 a a; claims = 0120;").person(0, 9), 120);
    }

    /** Terms I: "SIGNS ; = + - * / < ( ) ." */
    static void signsAreNine() {
        good("claims = if (far + 1) * 2 - 3 < 4 / 5 then 6 else 7;");
        for (char sign = 33; sign < 127; sign++) {
            boolean isLong = sign >= 'a' && sign <= 'z' || sign >= '0' && sign <= '9';
            if (!isLong) {
                boolean joins = "+-*/".indexOf(sign) >= 0;
                fault("claims=far" + sign + "1;", joins ? 0 : 1, joins ? -1 : sign == ';' ? 11 : 10);
            }
        }
        fault("claims=far<=1;", 1, 10);
        fault("claims=far.;", 1, 10);
    }

    /** Terms I: "A longer one, all else, is no TOKEN." It is at fault at its first byte, even where a 401st stood there. */
    static void whatIsLongerOrElseIsNoToken() {
        String[] none = {"abcdefghi", "townabcde", "12345", "!", "T", ".", "\u0000", "\u007f", "\u0080", "\u00ff"};
        for (String so : none) {
            fault(so, 1, 0);
            fault("town a; " + so, 1, 8);
            fault("town " + so + ";", 1, 5);
            fault("claims = 1 + " + so + ";", 1, 13);
            fault(tokens400() + so, 1, tokens400().length());
        }
    }

    /** Terms I: "text: {TELL}." There need not be one. */
    static void aTextMayHaveNoTell() {
        good("");
        good(" ");
        good("\t\r\n ".repeat(500));
        fault(";", 1, 0);
        fault("town a;;", 1, 7);
        for (String token : tokensOfAllKinds()) {
            if (!TELL_WORDS.contains(token)) {
                fault(token, 1, 0);
                fault("town a; " + token, 1, 8);
            } else {
                cutShort("town a; " + token);
            }
        }
    }

    /**
     * Terms I: "TELL: 'town' NAME ';' | 'road' NAME NAME INT ';' | 'person' NAME INT NAME NAME ';' | 'capital' NAME
     * ';'": each TELL, cut short behind each of its TOKENS, and with each other TOKEN in it.
     */
    static void eachTellHasItsTokens() {
        for (String tell : new String[] {"town c ;", "road a b 5 ;", "person p 5 a b ;", "capital b ;", "seed 5 ;"}) {
            good(TWO + tell);
            String[] tokens = tell.split(" ");
            StringBuilder ahead = new StringBuilder(TWO + tokens[0] + " ");
            for (int i = 1; i < tokens.length; i++) {
                cutShort(ahead.toString());
                for (String other : tokensOfAllKinds()) {
                    boolean isAlike = isName(other) && isName(tokens[i]) || isInt(other) && isInt(tokens[i]);
                    if (!isAlike && !other.equals(tokens[i])) {
                        fault(ahead + other, 1, ahead.length());
                    }
                }
                ahead.append(tokens[i]).append(' ');
            }
        }
    }

    /** Terms I: "('claims' | 'strokes' | 'gifts' | 'doubts') LAW ';'" and "LAW: '='". */
    static void eachLawBeginsWithItsSign() {
        for (String law : new String[] {"claims", "strokes", "gifts", "doubts"}) {
            good(law + "=1;");
            cutShort(law);
            cutShort(law + " = ");
            cutShort(law + " = 1");
            for (String other : tokensOfAllKinds()) {
                if (!other.equals("=")) {
                    fault(law + " " + other, 1, law.length() + 1);
                }
            }
        }
    }

    /** Terms I: "LAW: '=' {'if' E '<' E 'then' E 'else'} E." and "UNIT: INT | VAR | '(' E ')'.": what can begin an E. */
    static void whatAnEBeginsWith() {
        String[] ahead = {"claims =", "claims = if", "claims = if 1 <", "claims = if 1 < 2 then",
            "claims = if 1 < 2 then 3 else", "claims = (", "claims = ((", "claims = 1 +", "claims = 1 -", "claims = 1 *",
            "claims = 1 /", "claims = (1 +", "claims = if (1) <"};
        for (String so : ahead) {
            for (String token : tokensOfAllKinds()) {
                boolean canBeIf = so.equals("claims =") || so.endsWith("else");
                boolean goesOn = canBeginUnit(token) || token.equals("if") && canBeIf;
                fault(so + " " + token, 1, goesOn ? so.length() + 1 + token.length() : so.length() + 1);
            }
        }
    }

    private static void followedBy(String so, String closing) {
        for (String token : tokensOfAllKinds()) {
            boolean goesOn = token.equals(closing) || token.matches("[+*/-]");
            if (goesOn && token.equals(";")) {
                good(so + " ;");
            } else {
                fault(so + " " + token, 1, goesOn ? so.length() + 1 + token.length() : so.length() + 1);
            }
        }
    }

    /** Terms I: "E: PART {('+' | '-') PART}.   PART: UNIT {('*' | '/') UNIT}.": what can come behind a UNIT. */
    static void whatComesBehindAnE() {
        followedBy("claims = 1", ";");
        followedBy("claims = far", ";");
        followedBy("claims = (1)", ";");
        followedBy("claims = 1 + 2 * 3", ";");
        followedBy("claims = (1", ")");
        followedBy("claims = ((1)", ")");
        followedBy("claims = if 1", "<");
        followedBy("claims = if (1)", "<");
        followedBy("claims = if (1", ")");
        followedBy("claims = if 1 < 2", "then");
        followedBy("claims = if 1 < (2", ")");
        followedBy("claims = if 1 < 2 then 3", "else");
        followedBy("claims = if 1 < 2 then 3 else 4", ";");
        followedBy("claims = if 1 < 2 then 3 else if 4 < 5 then 6 else 7", ";");
    }

    /** Terms I: "VAR: 'far' | .. | 'purse'.": all nine, and no NAME, even of a PERSON. */
    static void varsAreNine() {
        for (String word : words()) {
            String text = "town a; person p 5 a a; claims = " + word + ";";
            fault(text, VARS.contains(word) ? 0 : 1, VARS.contains(word) ? -1 : word.equals("if") ? 35 : 33);
        }
        fault("town a; person p 5 a a; claims = p;", 1, 33);
    }

    // ---- Terms, part I: towns, roads, people, laws, seeds ----

    /** Terms I: "TOWNS, 7 at most (a NAME)". */
    static void townsAreSevenAtMost() {
        NoonRinger x = Check.of(many("town t#;", 7));
        CHECK.due("seven", x.count(0), 7);
        CHECK.due("the seventh", x.town(6, 0), 0);
        fault(many("town t#;", 8), 2, 56);
    }

    /** Terms I: "ROADS, 10 at most (of two TOWNS". More than one may join the same two. */
    static void roadsAreTenAtMost() {
        NoonRinger x = Check.of(TWO + many("road a b 5;", 5) + many("road b a 6;", 5));
        CHECK.due("ten", x.count(1), 10);
        CHECK.due("the tenth", x.road(9, 2), 6);
        fault(TWO + many("road a b 5;", 11), 2, 16 + 110);
    }

    /** Terms I: "LONG 1 .. 99 miles". */
    static void roadsAre1To99MilesLong() {
        NoonRinger x = Check.of(TWO + "road a b 1; road a b 99;");
        CHECK.due("1", x.road(0, 2), 1);
        CHECK.due("99", x.road(1, 2), 99);
        fault(TWO + "road a b 0;", 5, 25);
        fault(TWO + "road a b 100;", 5, 25);
    }

    /** Terms I: "PEOPLE, 6 at most". */
    static void peopleAreSixAtMost() {
        NoonRinger x = Check.of("town a;" + many("person p# 5 a a;", 6));
        CHECK.due("six", x.count(2), 6);
        CHECK.due("the sixth", x.person(5, 0), 5);
        fault("town a;" + many("person p# 5 a a;", 7), 2, 7 + 96);
    }

    /** Terms I: "HONEST 0 .. 9". */
    static void peopleAreHonest0To9() {
        NoonRinger x = Check.of("town a; person p 0 a a; person q 9 a a;");
        CHECK.due("0", x.person(0, 0), 0);
        CHECK.due("9", x.person(1, 0), 9);
        fault("town a; person p 10 a a;", 5, 17);
        fault("town a; person p 9999 a a;", 5, 17);
    }

    /** Terms I: "the TOWN that is their HOME, the one where they are at first". They may be one and the same. */
    static void homeIsToldAheadOfWhereTheyAre() {
        NoonRinger x = Check.of(TWO + "person p 5 a b; person q 5 b b;");
        CHECK.due("home of p", x.person(0, 1), 0);
        CHECK.due("p is", x.person(0, 2), 1);
        CHECK.due("home of q", x.person(1, 1), 1);
        CHECK.due("q is", x.person(1, 2), 1);
    }

    /** Terms I: "numbered each from 0 on as they stand". */
    static void eachSortIsNumberedFrom0() {
        NoonRinger x = Check.of("town c; person p 1 c c; town a; road a c 3; person q 2 a c; town b; road b c 4;");
        CHECK.due("c", x.town(0, 2), 3);
        CHECK.due("p", x.person(0, 0) * 10 + x.person(0, 1), 10);
        CHECK.due("q", x.person(1, 0) * 10 + x.person(1, 1), 21);
        CHECK.due("a c", x.road(0, 0) * 10 + x.road(0, 1), 10);
        CHECK.due("b c", x.road(1, 0) * 10 + x.road(1, 1), 20);
    }

    /** Terms I: "CAPITAL: a TOWN (the first; the last one)." */
    static void theCapitalIsTheFirstTownOrTheLastTold() {
        CHECK.due("the first", Check.of("town b; town a;").town(0, 0), 1);
        CHECK.due("the last one", Check.of("town a; capital a; town b; town c; capital c; capital b;").town(1, 0), 1);
        CHECK.due("not the one ahead", Check.of("town a; town b; capital b; capital a;").town(1, 0), 0);
        CHECK.due("the last town", Check.of(many("town t#;", 7) + "capital tg;").town(6, 0), 1);
    }

    /** Terms I: "LAWS: CLAIMS (far), STROKES (far), GIFTS (1), DOUBTS (0), if not told". */
    static void lawsThatAreNotTold() {
        NoonRinger x = Check.of(TWO + "road a b 7; person p 5 b b; person q 5 a a;");
        CHECK.due("claims of p", x.person(0, 9), 7);
        CHECK.due("strokes of p", x.person(0, 10), 7);
        CHECK.due("gifts", x.person(0, 11), 1);
        CHECK.due("doubts", x.person(0, 12), 0);
        CHECK.due("claims of q", x.person(1, 9), 0);
        x = Check.of(TWO + "road a b 7; person p 5 b b; claims = 20;");
        CHECK.due("strokes are far, not what is claimed", x.person(0, 10), 7);
        Check.feed(x, TWO + "road a b 7; person p 5 b b; strokes = 3; gifts = 4; doubts = 5;");
        x.read();
        CHECK.due("claims of the text ahead are not kept", x.person(0, 9), 7);
        Check.feed(x, TWO + "road a b 7; person p 5 b b;");
        x.read();
        CHECK.due("nor the other ones", x.person(0, 10) * 10000 + x.person(0, 11) * 100 + x.person(0, 12), 70100);
    }

    /** Terms I: "LAWS: .. the last one." */
    static void ofALawTheLastOneHolds() {
        NoonRinger x = Check.of("town a; claims = 1; strokes = 2; gifts = 3; doubts = 4; person p 5 a a;"
            + "doubts = 8; gifts = 7; strokes = if 1 < 2 then 6 else 9; claims = 5;");
        CHECK.due("claims", x.person(0, 9), 5);
        CHECK.due("strokes", x.person(0, 10), 6);
        CHECK.due("gifts", x.person(0, 11), 7);
        CHECK.due("doubts", x.person(0, 12), 8);
        x = Check.of("town a; person p 5 a a; gifts = 9; gifts = 1;");
        CHECK.due("though it is as if not told", x.person(0, 11), 1);
    }

    /** Who is barred behind the first noon, at which person 0 rings and lies. */
    private static int barredBySeed(String seeds, int doubts) {
        return Check.of("town a; person p 5 a a; claims = 1; " + seeds + "doubts = " + doubts + ";").barredIn(1);
    }

    /** Terms I: "SEED 0 .. 9999 (0): the last one." */
    static void theSeedIs0OrTheLastTold() {
        for (String seeds : new String[] {"", "seed 0; ", "seed 3; seed 0; ", "seed 9999; seed 0000; "}) {
            CHECK.due("the lot of seed 0 is " + LOT_OF_SEED[0] + ": " + seeds, barredBySeed(seeds, LOT_OF_SEED[0]), 0);
            CHECK.due("the lot of seed 0 is " + LOT_OF_SEED[0] + ": " + seeds, barredBySeed(seeds, LOT_OF_SEED[0] + 1), 1);
        }
        for (int seed = 1; seed < LOT_OF_SEED.length; seed++) {
            CHECK.due("the lot of seed " + seed, barredBySeed("seed 5; seed " + seed + ";", LOT_OF_SEED[seed]), 0);
            CHECK.due("the lot of seed " + seed, barredBySeed("seed 5; seed " + seed + ";", LOT_OF_SEED[seed] + 1), 1);
        }
        CHECK.due("the lot of seed 9999", barredBySeed("seed 9999;", LOT_OF_SEED_9999), 0);
        CHECK.due("the lot of seed 9999", barredBySeed("seed 9999;", LOT_OF_SEED_9999 + 1), 1);
    }

    // ---- Terms, part I: faults ----

    /** Terms I: "FAULTS of a text, the first by its place (a byte". */
    static void theFirstFaultByItsPlace() {
        fault("! " + many("town t#;", 8), 1, 0);
        fault(many("town t#;", 8) + " !", 2, 56);
        fault("gifts = " + many("(", 7) + "! ", 2, 14);
        fault("gifts = " + many("(", 6) + "! (", 1, 14);
        fault("town a; seed !; town !;", 1, 13);
        fault("town a; town a; person p 10 z z; road a a 0;", 3, 13);
        fault("town a; road z a 0; town a;", 4, 13);
        fault("town a; road a a 0;", 3, 15);
        fault("town a; town b; road a b 0; town a; capital z;", 5, 25);
        fault("town a; person a 10 z z;", 3, 15);
        fault("town a; person p 10 z z;", 5, 17);
        fault("town a; person p 1 z y;", 4, 19);
    }

    /** Terms I: "the text's end: its length)". */
    static void theTextsEndIsItsLength() {
        fault("town", 1, 4);
        fault("town a", 1, 6);
        fault("town a   ", 1, 9);
        fault("town a\n\t\r ", 1, 10);
        fault("claims = (1", 1, 11);
        fault(" ".repeat(1996) + "town", 1, 2000);
        fault("town" + " ".repeat(1996), 1, 2000);
    }

    /** Terms I: "of one place the least": where no text goes on, it is 1 SYNTAX, though there is no ROOM either. */
    static void ofOnePlaceTheLeastFault() {
        // a 401st TOKEN with which no text goes on
        fault(tokens400() + "x", 1, tokens400().length());
        fault(filler(399) + "town;", 1, filler(399).length() + 4);
        fault(filler(399) + "seed far", 1, filler(399).length() + 5);
        fault(filler(398) + "seed 1)", 1, filler(398).length() + 6);
        // a 7th ( and a 5th if where none can stand
        fault("gifts = " + many("(", 6) + "1(", 1, 15);
        fault("gifts = " + many("if 1<2 then 3 else ", 4) + "4 if", 1, 8 + 76 + 2);
        fault("gifts = " + many("if 1<2 then 3 else ", 3) + "if 1<2 then if", 1, 8 + 57 + 12);
        // a road between towns that are not told, though alike, has no NAME first
        fault("town a; road z z 5;", 4, 13);
    }

    /** Terms I: "1 SYNTAX: a TOKEN, or what is none, with which no text goes on." */
    static void syntaxIsWhatNoTextGoesOnWith() {
        fault("town a, town b;", 1, 6);
        fault("town a town b;", 1, 7);
        fault("town 7;", 1, 5);
        fault("road a b;", 1, 8);
        fault("person p a b 7;", 1, 9);
        fault("capital;", 1, 7);
        fault("claims 7;", 1, 7);
        fault("seed a;", 1, 5);
        fault("claims = -1;", 1, 9);
        fault("claims = 1 < 2;", 1, 11);
        fault("claims = (if 1 < 2 then 3 else 4);", 1, 10);
        fault("claims = if (1 < 2) then 3 else 4;", 1, 15);
        fault("claims = if 1 < 2 then 3;", 1, 24);
    }

    /** 400 TOKENS, which end behind a TELL. */
    private static String tokens400() {
        return "claims=1" + many("+1", 198) + ";";
    }

    /** As many TOKENS of TELLS as asked for, six at least. */
    private static String filler(int tokens) {
        int laws = tokens % 3;
        return many("claims=1;", laws) + many("seed 1;", (tokens - 4 * laws) / 3);
    }

    /**
     * Behind 400 TOKENS, of which the last are told, each that can come next is one too many; no text goes on with
     * another.
     */
    private static void the401st(String last, int tokens, String goOn) {
        String so = filler(400 - tokens) + last;
        for (String token : tokensOfAllKinds()) {
            boolean goesOn = List.of(goOn.split(" ")).contains(token);
            fault(so + " " + token, goesOn ? 2 : 1, so.length() + 1);
        }
        if (tokens > 0) {
            cutShort(so + " ");
        } else {
            good(so + " ");
        }
    }

    /** Terms I: "2 ROOM: a 401st TOKEN". A text that ends behind the 400th ahead of its time is of SYNTAX. */
    static void room400TokensAtMost() {
        good(tokens400());
        good(tokens400().replace("+", " \n+\t\r"));
        fault(tokens400().replace(";", "+far;"), 2, tokens400().length());
        String beginsUnit = "7 ( " + String.join(" ", VARS);
        the401st("", 0, String.join(" ", TELL_WORDS));
        the401st("town", 1, "zz");
        the401st("town a", 2, ";");
        the401st("road a", 2, "zz");
        the401st("road a b", 3, "7");
        the401st("person p", 2, "7");
        the401st("person p 7", 3, "zz");
        the401st("capital", 1, "zz");
        the401st("seed", 1, "7");
        the401st("gifts", 1, "=");
        the401st("gifts=", 2, "if " + beginsUnit);
        the401st("gifts=1", 3, "+ - * / ;");
        the401st("gifts=(", 3, beginsUnit);
        the401st("gifts=(1", 4, "+ - * / )");
        the401st("gifts=1*", 4, beginsUnit);
        the401st("gifts=if", 3, beginsUnit);
        the401st("gifts=if 1", 4, "+ - * / <");
        the401st("gifts=if 1<2", 6, "+ - * / then");
        the401st("gifts=if 1<2 then", 7, beginsUnit);
        the401st("gifts=if 1<2 then 3", 8, "+ - * / else");
        the401st("gifts=if 1<2 then 3 else", 9, "if " + beginsUnit);
    }

    /** Terms I: "one more of a sort than told (at its first TOKEN)". */
    static void roomOneMoreOfASort() {
        String full = many("town t#;", 7) + many("road ta tb 5;", 10) + many("person p# 5 ta ta;", 6);
        good(full);
        good(full + many("capital tb; seed 5; claims = 1; strokes = 1; gifts = 1; doubts = 1;", 5));
        fault(full + "town x;", 2, full.length());
        fault(full + " road ta tb 5;", 2, full.length() + 1);
        fault(full + "\n\nperson x 5 ta ta;", 2, full.length() + 2);
        // at its first TOKEN, whatever is behind it
        fault(full + "town", 2, full.length());
        fault(full + "town ta;", 2, full.length());
        fault(full + "road zz zz 0;", 2, full.length());
        fault(full + "person ta 10 zz zz;", 2, full.length());
        fault(full + "person !", 2, full.length());
        // those that are told wrong are told, too
        fault("town a; town b; road z z 0; " + many("road a b 5;", 10), 2, 28 + 99);
        fault(many("town a;", 8), 2, 49);
        fault("town a;" + many("person a 10 z z;", 7), 2, 7 + 96);
    }

    /** Terms I: "a 5th if of a LAW (at it)". */
    static void roomFourIfsOfALaw() {
        String one = "if 1<2 then 3 else ";
        good("claims = " + many(one, 4) + "5;");
        good("claims = " + many(one, 4) + "5; claims = " + many(one, 4) + "5; doubts = " + many(one, 4) + "5;");
        fault("claims = " + many(one, 4) + "if", 2, 9 + 76);
        fault("claims = " + many(one, 5) + "5;", 2, 9 + 76);
        fault("claims = 1; gifts = " + many(one, 5) + "5;", 2, 20 + 76);
        fault("claims = " + many(one, 4) + "5; gifts = " + many(one, 4) + "if !", 2, 9 + 76 + 11 + 76);
    }

    /** Terms I: "a 7th ( within one another (at it)". Side by side there may be more. */
    static void roomSixBracketsWithinOneAnother() {
        String six = many("(", 6) + "1" + many(")", 6);
        good("claims = " + six + ";");
        good("claims = " + six + " + " + six + " * " + six + ";");
        good("claims = if " + six + " < " + six + " then " + six + " else if " + six + "<2 then 3 else " + six + ";");
        good("claims = " + many("(", 5) + "(1) + (2)" + many(")", 5) + "; gifts = " + six + ";");
        fault("claims = " + many("(", 7), 2, 15);
        fault("claims = 1 + " + many("(", 7) + "1" + many(")", 7) + ";", 2, 19);
        fault("claims = (1 + (2 * (3 - (4 / (5 + (6 * (7)))))));", 2, 39);
        fault("claims = " + many("(", 5) + "(1) + ((", 2, 9 + 12);
        fault("claims = if 1 < " + many("(", 7), 2, 22);
        fault("claims = if 1 < 2 then " + six + " else " + many("(", 7), 2, 23 + 13 + 6 + 6);
    }

    /**
     * Terms I: "If there is none, likewise": 3 to 5 are told only where there is neither of 1 and 2, wherever that
     * stands.
     */
    static void laterFaultsOnlyWithoutTheFirstTwo() {
        String[] wrong = {"town a; town a; ", "town a; road a a 5; ", "capital z; ", "town a; person p 10 a a; "};
        int[] numbers = {3, 3, 4, 5};
        int[] places = {13, 15, 8, 17};
        for (int i = 0; i < wrong.length; i++) {
            fault(wrong[i], numbers[i], places[i]);
            fault(wrong[i] + "seed 1", 1, wrong[i].length() + 6);
            fault(wrong[i] + "!", 1, wrong[i].length());
            fault(wrong[i] + "claims = (((((((", 2, wrong[i].length() + 15);
            fault(wrong[i] + tokens400(), 2, wrong[i].length() + tokens400().length() - new int[] {6, 8, 3, 9}[i]);
        }
    }

    /** Terms I: "3 TWICE: a NAME told already (of TOWNS and PEOPLE together)". */
    static void twiceIsANameToldAlready() {
        fault("town a; town a;", 3, 13);
        fault("town a; town b; town c; town a;", 3, 29);
        fault("town a; person p 5 a a; person p 5 a a;", 3, 31);
        fault("town a; person a 5 a a;", 3, 15);
        fault("town a; person p 5 a a; town p;", 3, 29);
        fault("town a; person p 5 a a; town b; person b 5 a a;", 3, 39);
        fault(many("town t#;", 7) + "person tg 5 ta ta;", 3, 63);
        fault("town ta;" + many("person p# 5 ta ta;", 5) + "person pe 5 ta ta;", 3, 8 + 90 + 7);
        good("town a; town aa; person aaa 5 a a; person b 5 a a;");
        fault("town a; town a; town a;", 3, 13);
    }

    /** Terms I: "(at the second NAME) a ROAD from a TOWN to itself". */
    static void twiceIsARoadFromATownToItself() {
        fault("town a; road a a 5;", 3, 15);
        fault("town a; town b; road a b 5; road b b 5;", 3, 35);
        fault("town a; road a a 0;", 3, 15);
        good(TWO + "road a b 5; road b a 5; road a b 5;");
    }

    /** Terms I: "4 NAME: (at it) no such TOWN told ahead". */
    static void nameIsNoTownToldAhead() {
        fault("town a; road z a 5;", 4, 13);
        fault("town a; road a z 5;", 4, 15);
        fault("town a; person p 5 z a;", 4, 19);
        fault("town a; person p 5 a z;", 4, 21);
        fault("town a; capital z;", 4, 16);
        fault("capital a; town a;", 4, 8);
        fault("road a b 5; town a; town b;", 4, 5);
        fault("town a; road a b 5; town b;", 4, 15);
        fault("person p 5 a a; town a;", 4, 11);
        fault("town a; person p 5 a a; capital p;", 4, 32);
        fault("town a; person p 5 p a;", 4, 19);
        fault("town a; person p 5 a a; road a p 5;", 4, 31);
        good("town a; town b; capital a; road a b 5; person p 5 b a;");
    }

    /**
     * Terms I: "(a NAME told more than once is that of the first one of the sort)": what is behind it is no fault
     * ahead of it.
     */
    static void aNameToldTwiceIsThatOfTheFirst() {
        fault("town a; town b; town a; road a a 5;", 3, 21);
        fault("town a; town b; town b; road b a 5; capital b; person p 5 b b;", 3, 21);
        fault("town a; road a b 5; town a;", 4, 15);
        fault("town a; person p 5 a a; town p; capital p;", 3, 29);
    }

    /** Terms I: "5 WRONG (at the INT): a number not as told above." */
    static void wrongIsANumberNotAsTold() {
        fault(TWO + "road a b 0;", 5, 25);
        fault(TWO + "road a b 0000;", 5, 25);
        fault(TWO + "road a b 100;", 5, 25);
        fault(TWO + "road a b 9999;", 5, 25);
        fault(TWO + "person p 10 a b;", 5, 25);
        fault(TWO + "person p 9999 a b;", 5, 25);
        fault(TWO + "road a b 5; road a b\n  0;", 5, 39);
        good(TWO + "road a b 1; road a b 99; person p 0 a b; person q 9 a b; seed 0; seed 9999; claims = 0; gifts = 9999;");
    }

    /** Terms I: "A text with a FAULT changes nothing but the tape". */
    static void aFaultChangesNothingButTheTape() {
        String[] faulty = {"", "town z; seed 1; claims = 3", many("town t#;", 8), "town z; town z;", "town z; capital y;",
            "town z; town y; road y z 0; person w 5 z z; claims = 3; strokes = 3; gifts = 3; doubts = 3; seed 3;"};
        for (int number = 1; number <= 5; number++) {
            NoonRinger x = Check.of(Samples.FIVE_TOWNS);
            x.send(2, 0);
            x.close(3, true);
            x.days(2);
            x.hold(1);
            x.tell(5, true);
            String before = Check.all(x);
            String laws = looks(x);
            Check.feed(x, faulty[number]);
            CHECK.due("read", x.read(), number);
            CHECK.due("all is as it was, the tape is empty", Check.all(x), before);
            CHECK.due("the towns, roads and laws, too", looks(x), laws);
            CHECK.due("what is told", x.whence(1, 1, 1), 24);
            CHECK.due("the slot", x.restore(1), true);
        }
        NoonRinger x = Check.of(Samples.FIVE_TOWNS);
        x.days(2);
        Check.feed(x, "town");
        x.read();
        CHECK.due("what was done can be undone", x.undo(), true);
        CHECK.due("the day", x.count(3), 0);
    }

    private static String looks(NoonRinger x) {
        int[] all = {x.town(0, 0), x.town(1, 3), x.town(3, 3), x.road(0, 2), x.road(3, 3), x.road(4, 0),
            x.person(0, 0), x.person(0, 1),
            x.person(1, 8), x.person(1, 9), x.person(1, 10), x.person(1, 11), x.person(1, 12), x.barredIn(9)};
        return Arrays.toString(all);
    }

    /**
     * Terms I: "else it is in place of the one ahead: day 0, all ROADS open, nobody rang, .. SLOTS hold nothing." An
     * empty one, too.
     */
    static void aTextWithoutAFaultIsInPlaceOfTheOneAhead() {
        for (String text : new String[] {"", Samples.TWO_LIARS, "town a;"}) {
            NoonRinger x = Check.of(Samples.TWO_LIARS);
            x.send(0, 1);
            x.days(9);
            x.send(1, 1);
            x.close(0, true);
            x.hold(0);
            x.hold(2);
            x.tell(5, true);
            CHECK.due("somebody is barred", x.count(6) > 0, true);
            CHECK.due("somebody rang", x.count(13) > 0, true);
            Check.feed(x, text);
            CHECK.due("read", x.read(), 0);
            CHECK.due("all is new", Check.all(x), Check.all(Check.of(text)));
            CHECK.due("the day", x.count(3), 0);
            CHECK.due("closed roads", x.count(7), 0);
            CHECK.due("nobody rang", x.count(4), -2);
            CHECK.due("nobody rang", x.count(13), 0);
            CHECK.due("nobody goes", x.count(15), 0);
            CHECK.due("nobody is barred", x.count(6), 0);
            CHECK.due("nothing in purses", x.count(14), 0);
            CHECK.due("nothing can be undone", x.undo(), false);
            CHECK.due("nothing is told", x.forget(), 0);
            for (int slot = 0; slot < 3; slot++) {
                CHECK.due("slots hold nothing", x.restore(slot), false);
            }
        }
        NoonRinger x = Check.of(Samples.TWO_LIARS);
        x.send(0, 1);
        x.days(1);
        x.send(0, 0);
        x.days(1);
        CHECK.due("walked", x.person(0, 4), 9);
        Check.feed(x, Samples.TWO_LIARS);
        x.read();
        CHECK.due("all have walked 0 miles", x.person(0, 4), 0);
        x = Check.of(TWO + "road a b 5; capital b; seed 3; person p 5 a b;");
        Check.feed(x, "town a; town b; person p 5 b a; claims = 1; doubts = " + LOT_OF_SEED[0] + ";");
        x.read();
        CHECK.due("the capital of the one ahead is not kept", x.town(0, 0), 1);
        CHECK.due("nor its roads", x.far(0, 1), 999);
        CHECK.due("nor its seed", x.barredIn(1), 0);
    }

    // ---- Promises 1 to 5 ----

    /** Promise 1: "No TOWNS, no PEOPLE." */
    static void aNewObjectHasNoTownsNoPeople() {
        NoonRinger x = new NoonRinger();
        int[] due = {0, 0, 0, 0, -2, 0, 0, 0, 0, 0, 0, 0, 0, 0, 0, 0, 0};
        for (int what = 0; what < due.length; what++) {
            CHECK.due("count(" + what + ")", x.count(what), due[what]);
        }
        for (int what = 0; what < 13; what++) {
            CHECK.due("no town", x.town(0, what), -1);
            CHECK.due("no road", x.road(0, what), -1);
            CHECK.due("no person", x.person(0, what), -1);
        }
        CHECK.due("no place", x.place(), -1);
        CHECK.due("nothing to undo", x.undo(), false);
        CHECK.due("nothing is held", x.restore(0), false);
        CHECK.due("nothing is told", x.forget(), 0);
    }

    /** Promise 2: "Twenty bytes, the highest of a first, come behind the tape: how many it has." */
    static void feedPutsTwentyBytesInTheirOrder() {
        for (int i = 0; i < 20; i++) {
            int[] fours = new int[5];
            Arrays.fill(fours, 0x20202020);
            fours[i / 4] ^= 0x41 << (24 - i % 4 * 8);
            NoonRinger x = new NoonRinger();
            CHECK.due("feed", x.feed(fours[0], fours[1], fours[2], fours[3], fours[4]), 20);
            CHECK.due("read", x.read(), 1);
            CHECK.due("place", x.place(), i);
            x.feed(0x20202020, 0x20202020, 0x20202020, 0x20202020, 0x20202020);
            CHECK.due("feed behind it", x.feed(fours[0], fours[1], fours[2], fours[3], fours[4]), 40);
            x.read();
            CHECK.due("place behind it", x.place(), 20 + i);
        }
        NoonRinger x = new NoonRinger();
        CHECK.due("all bytes of an int", x.feed(MIN, MAX, -1, 0, 1), 20);
        CHECK.due("read", x.read(), 1);
        CHECK.due("place", x.place(), 0);
    }

    /** Promise 2: "NONE, and nothing comes, if it would have more than 2,000." */
    static void feedNoMoreThan2000() {
        for (int length = 1979; length <= 2000; length++) {
            NoonRinger x = new NoonRinger();
            Check.feed(x, "town a;" + " ".repeat(length - 7));
            CHECK.due("the tape", x.count(8), length);
            boolean fits = length <= 1980;
            CHECK.due("feed behind " + length, x.feed(-1, -1, -1, -1, -1), fits ? length + 20 : -1);
            CHECK.due("the tape behind it", x.count(8), fits ? length + 20 : length);
            CHECK.due("what came", x.read(), fits ? 1 : 0);
            CHECK.due("towns", x.count(0), fits ? 0 : 1);
            CHECK.due("feed behind read", x.feed(0, 0, 0, 0, 0), 20);
        }
    }

    /** Promise 3: "The last n bytes of the tape go: how many it has." */
    static void backTakesTheLastBytes() {
        NoonRinger x = new NoonRinger();
        Check.feed(x, "town a; town b; town");
        CHECK.due("back(0)", x.back(0), 20);
        CHECK.due("back(4)", x.back(4), 16);
        CHECK.due("back(8)", x.back(8), 8);
        CHECK.due("read", x.read(), 0);
        CHECK.due("towns", x.count(0), 1);
        Check.feed(x, "town a; !!!!!!!!!!!!");
        x.back(12);
        Check.feed(x, "town b; town c; ");
        CHECK.due("what comes behind", x.read(), 0);
        CHECK.due("towns", x.count(0), 3);
        Check.feed(x, "xxxxx");
        CHECK.due("all of them", x.back(5), 0);
        CHECK.due("back(0) of nothing", x.back(0), 0);
    }

    /** Promise 3: "NONE, and nothing goes, if it has not so many, or n is below 0." */
    static void backNoMoreThanThereAre() {
        NoonRinger x = new NoonRinger();
        CHECK.due("back(1) of nothing", x.back(1), -1);
        Check.feed(x, "town a; town b; town c;");
        for (int wrong : new int[] {24, 25, 2000, 2001, MAX, -1, -2, -23, MIN}) {
            CHECK.due("back(" + wrong + ")", x.back(wrong), -1);
            CHECK.due("the tape", x.count(8), 23);
        }
        CHECK.due("read", x.read(), 0);
        CHECK.due("towns", x.count(0), 3);
        CHECK.due("back(1) behind read", x.back(1), -1);
    }

    /** Promise 4: "The tape, which is empty then, is read: 0, or the number of its FAULT." */
    static void readEmptiesTheTape() {
        String[] texts = {"town a;", "town a", many("town t#;", 8), "town a; town a;", "capital a;", "town a;"
            + " person p 10 a a;"};
        for (int number = 0; number < texts.length; number++) {
            NoonRinger x = new NoonRinger();
            Check.feed(x, texts[number]);
            CHECK.due("the tape", x.count(8), texts[number].length());
            CHECK.due("read", x.read(), number);
            CHECK.due("the tape is empty", x.count(8), 0);
            CHECK.due("so that nothing is read", x.read(), 0);
            CHECK.due("of no towns", x.count(0), 0);
        }
    }

    /** Promise 4: "The tape, which is empty then, is read". As often as one likes, long texts and faulty ones, too. */
    static void readIsDoneAsOftenAsOneLikes() {
        NoonRinger x = new NoonRinger();
        for (int i = 0; i < 9; i++) {
            String sum = "+1".repeat(190 - i);
            Check.feed(x, "town a;person p 1 a a;claims=" + i + sum + ";");
            CHECK.due("a long text", x.read(), 0);
            CHECK.due("its law", x.person(0, 9), 190);
            Check.feed(x, "town b;town c;person q 2 c c;claims=5" + sum + ";seed");
            CHECK.due("one with a fault", x.read(), 1);
            CHECK.due("the law ahead of it", x.person(0, 9), 190);
        }
    }

    /** Promise 5: "The byte of the latest read()'s FAULT; NONE without." */
    static void placeIsOfTheLatestRead() {
        NoonRinger x = new NoonRinger();
        CHECK.due("ahead of all reads", x.place(), -1);
        Check.feed(x, "!");
        CHECK.due("ahead of all reads", x.place(), -1);
        x.read();
        CHECK.due("the first byte", x.place(), 0);
        Check.feed(x, "town a; town b; ");
        x.days(1);
        CHECK.due("not changed by what is fed and done", x.place(), 0);
        Check.feed(x, "road a c 5;");
        x.read();
        CHECK.due("a later one", x.place(), 23);
        Check.feed(x, "town a;");
        x.read();
        CHECK.due("without", x.place(), -1);
        Check.feed(x, "town a; town a;");
        x.read();
        CHECK.due("with", x.place(), 13);
        x.read();
        CHECK.due("of an empty text", x.place(), -1);
    }

}
