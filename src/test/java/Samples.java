/** Texts that several tests read, with what they hold told by hand. */
final class Samples {
    /**
     * FAR: a b 4, a c 9, a d 14, b c 6, b d 11, c d 5; e lies apart.
     * CLAIMS p 8 (a lie), q 14, r 18 (a lie); STROKES 4, 7, 9; all GIFTS 3; q rings.
     */
    static final String FIVE_TOWNS =
        "town a; town b; town c; town d; town e;\n"
        + "road a b 4; road b c 6; road c d 5; road a d 20; road c a 9;\n"
        + "person p 3 b a; person q 7 d a; person r 0 c b;\n"
        + "claims = if honest < 5 then far * 2 else far;\n"
        + "strokes = claim / 2; gifts = 3 + rung; doubts = 50; seed 7;";

    /** The same without e. */
    static final String FOUR_TOWNS = FIVE_TOWNS.replace("town e;", "");

    /**
     * Both always lie while they claim: p 12, q 17. By seed 7 the lots of q are 99, 76, 6, ..,
     * those of p 78, 49, 35, 26, .. on days 0, 1, 2, 3.
     */
    static final String TWO_LIARS =
        "town a; town b; road a b 9; person p 3 b a; person q 8 b a; claims = far + honest; doubts = 50; seed 7;";

    /** FAR to the CAPITAL a: of b 5, of c 12. Nobody lies: p claims 5, q 12; r, at b, is at home in a. q rings. */
    static final String LINE = "town a; town b; town c; road a b 5; road b c 7;"
        + "person p 2 b a; person q 4 c a; person r 6 a b; ";
    /** Seven towns, one behind the other round about, each 99 miles from the next. */
    static final String ROUND = "town a; town b; town c; town d; town e; town f; town g; road a b 99; road b c 99;"
        + "road c d 99; road d e 99; road e f 99; road f g 99; road g a 99; ";
    /** Where somebody rings, they lie, and are found out at once. */
    static final String ALL_LIE = "town a; town b; road a b 9; person p 1 a a; person q 2 a a;"
        + "claims = honest; doubts = 100; ";

    /** As many PEOPLE as can be, all at home in a, of whom only the last is of HONEST 1. */
    static final String SIX = "person p 0 a a; person q 0 a a; person r 0 a a; person s 0 a a; person t 0 a a; person u 1 a a; ";

    private Samples() {
    }
}
