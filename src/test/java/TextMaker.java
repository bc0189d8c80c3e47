import java.util.ArrayList;
import java.util.List;
import java.util.Random;

/** Makes texts from a seed: most without a fault, some with one, some at the limits. */
final class TextMaker {
    private static final String[] VARS = {"far", "walked", "honest", "rung", "day", "which", "claim", "there", "purse"};
    private static final String[] WORDS = {
        "town", "road", "person", "capital", "claims", "strokes", "gifts", "doubts", "seed", "if", "then", "else",
        "far", "claim", ";", "=", "+", "-", "*", "/", "<", "(", ")", "0", "7", "99", "100", "9999", "12345", "abcdefgh",
        "abcdefghi", "a", "b", "zz", "!", "A", ".", "\u00e9", "\u0000", "town1", "1town"};
    private static final String[] BLANKS = {" ", "", "\n", "\t", "\r", "  "};

    private final Random random;

    TextMaker(Random random) {
        this.random = random;
    }

    private int below(int n) {
        return random.nextInt(n);
    }

    /** A text without a fault, of 400 tokens at most if it happens so (a long one may have more). */
    String good() {
        int towns = below(12) == 0 ? below(2) : 2 + below(6);
        int roads = towns < 2 ? 0 : below(4) == 0 ? below(11) : Math.min(10, towns - 1 + below(5));
        int people = towns == 0 ? 0 : below(7);
        List<String> tells = new ArrayList<>();
        for (int i = 0; i < towns; i++) {
            tells.add("town t" + letters(i) + " ;");
        }
        for (int i = 0; i < roads; i++) {
            int one = i < towns - 1 && below(4) != 0 ? i + 1 : below(towns);
            int other = i < towns - 1 && below(4) != 0 ? below(one + 1) : below(towns);
            if (one == other) {
                other = (one + 1) % towns;
            }
            int miles = below(3) == 0 ? 1 + below(4) : 1 + below(99);
            tells.add("road t" + letters(one) + " t" + letters(other) + " " + miles + " ;");
        }
        int capital = towns == 0 ? 0 : below(towns);
        for (int i = 0; i < people; i++) {
            int place = below(2) == 0 ? capital : below(towns);
            tells.add("person p" + letters(i) + " " + below(10) + " t" + letters(below(towns)) + " t" + letters(place) + " ;");
        }
        if (towns > 0 && (capital > 0 || below(2) == 0)) {
            tells.add("capital t" + letters(capital) + " ;");
        }
        addLaws(tells);
        if (below(2) == 0) {
            tells.add("seed " + below(10000) + " ;");
        }
        return String.join(" ", tells);
    }

    private static String letters(int i) {
        return "" + (char) ('a' + i);
    }

    private void addLaws(List<String> tells) {
        String[] plain = {"far", "far + honest", "far * 2 - walked", "far + rung", "999 - rung * 7", "walked + which",
            "if honest < 5 then far + 30 else far", "if day < 3 then far else claim", "purse", "far / honest",
            "if rung < 2 then 20 else 10 - rung", "claim / 5", "day * 13 - day / 3 * 39", "there * 20 + far"};
        for (String law : new String[] {"claims", "strokes", "gifts", "doubts"}) {
            for (int times = below(3) == 0 ? 0 : 1 + below(8) / 7; times > 0; times--) {
                int kind = below(3);
                String told = kind == 0 ? plain[below(plain.length)] : kind == 1 && law.equals("doubts") ? "" + below(101) : law();
                tells.add(law + " = " + told + " ;");
            }
        }
    }

    private String law() {
        StringBuilder so = new StringBuilder();
        for (int ifs = below(5); ifs > 0; ifs--) {
            so.append("if ").append(sum(2)).append(" < ").append(sum(2)).append(" then ").append(sum(1)).append(" else ");
        }
        return so.append(sum(3)).toString();
    }

    private String sum(int deep) {
        StringBuilder so = new StringBuilder(part(deep));
        while (below(3) == 0) {
            so.append(below(2) == 0 ? " + " : " - ").append(part(deep));
        }
        return so.toString();
    }

    private String part(int deep) {
        StringBuilder so = new StringBuilder(unit(deep));
        while (below(4) == 0) {
            so.append(below(2) == 0 ? " * " : " / ").append(unit(deep));
        }
        return so.toString();
    }

    private String unit(int deep) {
        int kind = below(deep > 0 ? 5 : 4);
        if (kind < 2) {
            return VARS[below(VARS.length)];
        }
        return kind < 4 ? "" + below(below(2) == 0 ? 10 : below(2) == 0 ? 200 : 10000) : "( " + sum(deep - 1) + " )";
    }

    /** A text as good() with tokens changed, doubled, left out or moved, or its end cut off. */
    String broken() {
        List<String> tokens = new ArrayList<>(List.of(good().split(" ")));
        boolean onlyNumbers = below(3) == 0;
        for (int times = 1 + below(3); times > 0 && !tokens.isEmpty(); times--) {
            int i = below(tokens.size());
            switch (onlyNumbers ? 5 : below(5)) {
                case 5:
                    spoilNumber(tokens);
                    break;
                case 0:
                    tokens.remove(i);
                    break;
                case 1:
                    tokens.add(i, tokens.get(below(tokens.size())));
                    break;
                case 2:
                    tokens.set(i, WORDS[below(WORDS.length)]);
                    break;
                case 3:
                    tokens.add(i, WORDS[below(WORDS.length)]);
                    break;
                default:
                    tokens = tokens.subList(0, i);
            }
        }
        return joined(tokens);
    }

    /** A number of a road or a person, or the first behind any token, is put where it may be too large. */
    private void spoilNumber(List<String> tokens) {
        for (int i = below(Math.min(60, tokens.size())); i < tokens.size(); i++) {
            if (tokens.get(i).matches("[0-9]+")) {
                tokens.set(i, new String[] {"0", "10", "100", "9999", "00", "0099"}[below(6)]);
                return;
            }
        }
    }

    /** Whole tells of a good text in another order, with some told more often. */
    String shuffled() {
        List<String> tells = new ArrayList<>();
        for (String tell : good().split(";")) {
            tells.add(tell + ";");
        }
        for (int times = below(6); times > 0; times--) {
            tells.add(below(tells.size() + 1), tells.get(below(tells.size())));
        }
        String one = tells.remove(below(tells.size()));
        tells.add(below(tells.size() + 1), one);
        return String.join("", tells);
    }

    /** Near the limits: many tokens, ifs, brackets, tells of a sort. */
    String large() {
        StringBuilder so = new StringBuilder(good());
        switch (below(4)) {
            case 0:
                so.append(" claims=0");
                for (int i = 150 + below(60); i > 0; i--) {
                    so.append("+").append(below(9));
                }
                so.append(";");
                break;
            case 1:
                so.append(" strokes=");
                for (int i = 3 + below(4); i > 0; i--) {
                    so.append("if far<").append(below(90)).append(" then ").append(sum(1)).append(" else ");
                }
                so.append("3;");
                break;
            case 2:
                int deep = 4 + below(5);
                so.append(" gifts=1+").append("(2*".repeat(deep)).append("far").append(")".repeat(deep - below(8) / 7)).append(";");
                break;
            default:
                for (int i = 3 + below(6); i > 0; i--) {
                    int kind = below(3);
                    so.append(kind == 0 ? "town q" + letters(below(26)) + ";" : kind == 1 ? "road ta tb 5;" : "person r" + letters(i) + " 5 ta ta;");
                }
        }
        return so.toString();
    }

    /** With a blank where one is needed, and other blanks or none elsewhere. */
    private String joined(List<String> tokens) {
        StringBuilder so = new StringBuilder();
        for (String token : tokens) {
            String blank = BLANKS[below(BLANKS.length)];
            boolean needed = so.length() > 0 && isLong(so.charAt(so.length() - 1)) && !token.isEmpty() && isLong(token.charAt(0));
            so.append(needed && blank.isEmpty() && below(20) != 0 ? " " : blank).append(token);
        }
        return so.toString();
    }

    private static boolean isLong(char c) {
        return c >= 'a' && c <= 'z' || c >= '0' && c <= '9';
    }

    /** Any of these, 2,000 bytes at most. */
    String any() {
        int kind = below(10);
        String text = kind < 5 ? good() : kind < 7 ? broken() : kind < 8 ? shuffled() : large();
        return text.length() > 2000 ? text.substring(0, 2000) : text;
    }
}
