import java.nio.charset.StandardCharsets;
import java.util.ArrayDeque;
import java.util.ArrayList;
import java.util.Arrays;
import java.util.Deque;
import java.util.HashMap;
import java.util.HashSet;
import java.util.List;
import java.util.Map;
import java.util.Set;
import java.util.regex.Matcher;
import java.util.regex.Pattern;

/**
 * A second reading of the document, written for plainness alone and in other ways than the class:
 * ways are all listed, laws are trees, states are copied whole. FuzzTest holds the class to it.
 */
final class Oracle {
    private static final List<String> WORDS = Arrays.asList(
        "town", "road", "person", "capital", "claims", "strokes", "gifts", "doubts", "seed", "if", "then", "else",
        "far", "walked", "honest", "rung", "day", "which", "claim", "there", "purse");
    private static final List<String> VARS = WORDS.subList(12, 21);
    private static final List<String> LAWS = WORDS.subList(4, 8);

    /** A fault of a text. */
    private static final class Fault extends RuntimeException {
        private static final long serialVersionUID = 1;
        final int number;
        final int place;

        Fault(int number, int place) {
            super("fault " + number + " at " + place);
            this.number = number;
            this.place = place;
        }

        static Fault first(Fault one, Fault other) {
            if (one == null || other == null) {
                return one == null ? other : one;
            }
            if (one.place != other.place) {
                return one.place < other.place ? one : other;
            }
            return one.number < other.number ? one : other;
        }
    }

    private static final class Token {
        final String text;
        final int place;

        Token(String text, int place) {
            this.text = text;
            this.place = place;
        }

        boolean isName() {
            return text.matches("[a-z]{1,8}") && !WORDS.contains(text);
        }

        boolean isInt() {
            return text.matches("[0-9]{1,4}");
        }

        boolean isToken() {
            return text.matches("[a-z]{1,8}|[0-9]{1,4}|[;=+*/<()-]");
        }
    }

    private static final class DividedByNought extends RuntimeException {
        private static final long serialVersionUID = 1;
    }

    private interface Expr {
        int value(Map<String, Integer> vars);
    }

    /** Which is told; condition (two), then-part, ..., last part. */
    private static final class Law {
        final List<Expr[]> ifs = new ArrayList<>();
        Expr last;

        int value(Map<String, Integer> vars) {
            try {
                for (Expr[] one : ifs) {
                    int left = one[0].value(vars);
                    int right = one[1].value(vars);
                    if (left < right) {
                        return one[2].value(vars);
                    }
                }
                return last.value(vars);
            } catch (DividedByNought e) {
                return 0;
            }
        }
    }

    private static final class Town {
        final String name;

        Town(String name) {
            this.name = name;
        }
    }

    private static final class Road {
        int one;
        int other;
        int miles;
        boolean closed;
    }

    private static final class Person {
        String name;
        int honest;
        int home;
        int place;
        int goal = -2;
        int walked;
        int rung;
        int purse;
        boolean barred;

        Person copy() {
            Person p = new Person();
            p.name = name;
            p.honest = honest;
            p.home = home;
            p.place = place;
            p.goal = goal;
            p.walked = walked;
            p.rung = rung;
            p.purse = purse;
            p.barred = barred;
            return p;
        }
    }

    private static final class World implements Cloneable {
        List<Town> towns = new ArrayList<>();
        List<Road> roads = new ArrayList<>();
        List<Person> people = new ArrayList<>();
        Map<String, Law> laws = new HashMap<>();
        int capital = -1;
        int seed;
        int day;
        int last = -2;
        int lastStrokes;

        World copy() {
            World w = new World();
            w.towns = towns;
            w.laws = laws;
            w.capital = capital;
            w.seed = seed;
            w.day = day;
            w.last = last;
            w.lastStrokes = lastStrokes;
            for (Road r : roads) {
                Road q = new Road();
                q.one = r.one;
                q.other = r.other;
                q.miles = r.miles;
                q.closed = r.closed;
                w.roads.add(q);
            }
            for (Person p : people) {
                w.people.add(p.copy());
            }
            return w;
        }

        /** The miles of all ways by open roads that come to no town twice. */
        List<Integer> ways(int from, int to) {
            List<Integer> all = new ArrayList<>();
            Set<Integer> seen = new HashSet<>();
            seen.add(from);
            list(from, to, 0, seen, all);
            return all;
        }

        private void list(int from, int to, int so, Set<Integer> seen, List<Integer> all) {
            if (from == to) {
                all.add(so);
                return;
            }
            for (Road r : roads) {
                if (!r.closed && (r.one == from || r.other == from)) {
                    int next = r.one == from ? r.other : r.one;
                    if (seen.add(next)) {
                        list(next, to, so + r.miles, seen, all);
                        seen.remove(next);
                    }
                }
            }
        }

        int far(int from, int to) {
            return ways(from, to).stream().mapToInt(Integer::intValue).min().orElse(999);
        }

        int law(String name, Person p, int home) {
            Map<String, Integer> vars = new HashMap<>();
            vars.put("far", far(home, capital));
            vars.put("walked", p.walked);
            vars.put("honest", p.honest);
            vars.put("rung", p.rung);
            vars.put("day", day);
            vars.put("which", people.indexOf(p));
            vars.put("there", (int) people.stream().filter(q -> q.place == capital).count());
            vars.put("purse", p.purse);
            vars.put("claim", name.equals("claims") ? 0 : law("claims", p, home));
            int most = name.equals("gifts") ? 99 : name.equals("doubts") ? 100 : 999;
            return Math.max(0, Math.min(most, laws.get(name).value(vars)));
        }

        int law(String name, Person p) {
            return law(name, p, p.home);
        }

        int farOf(Person p) {
            return far(p.home, capital);
        }

        int ringer() {
            int best = -2;
            for (int i = people.size() - 1; i >= 0; i--) {
                Person p = people.get(i);
                if (p.place == capital && !p.barred
                    && (best == -2 || law("claims", p) >= law("claims", people.get(best)))) {
                    best = i;
                }
            }
            return best;
        }

        int walk(Person p, int goal) {
            int road = -2;
            int best = Integer.MAX_VALUE;
            for (int i = 0; i < roads.size(); i++) {
                Road r = roads.get(i);
                if (goal >= 0 && !r.closed && (r.one == p.place || r.other == p.place)) {
                    int next = r.one == p.place ? r.other : r.one;
                    int left = far(next, goal);
                    if (left < 999 && r.miles + left < best) {
                        best = r.miles + left;
                        road = i;
                    }
                }
            }
            return road;
        }

        void noon(boolean doubted, int seed) {
            int who = ringer();
            last = -2;
            lastStrokes = 0;
            if (who >= 0) {
                Person p = people.get(who);
                int strokes = law("strokes", p);
                int gifts = law("gifts", p);
                boolean lie = law("claims", p) != farOf(p);
                if (doubted && lie && lot(100, seed, 8 * day + who) < law("doubts", p)) {
                    p.barred = true;
                } else {
                    last = who;
                    lastStrokes = strokes;
                    p.rung++;
                    p.purse = Math.min(99999, p.purse + gifts);
                }
            }
            for (Person p : people) {
                int road = walk(p, p.goal);
                if (road >= 0) {
                    Road r = roads.get(road);
                    p.place = r.one == p.place ? r.other : r.one;
                    p.walked += r.miles;
                    if (p.place == p.goal) {
                        p.goal = -2;
                    }
                    if (p.place == p.home) {
                        p.walked = 0;
                    }
                }
            }
            day++;
        }

        static int lot(int n, int seed, int which) {
            int h = seed;
            for (int it : new int[] {191, which}) {
                h = (h ^ it) * 1103515245 + 12345;
                h = h ^ (h >>> 15);
            }
            return (h >>> 1) % n;
        }
    }

    private final StringBuilder tape = new StringBuilder();
    private World now = emptyWorld();
    private int place = -1;
    private final Deque<World> undos = new ArrayDeque<>();
    private final World[] slots = new World[3];
    private final List<int[]> told = new ArrayList<>();

    private static World emptyWorld() {
        World w = new World();
        for (String law : LAWS) {
            Law l = new Law();
            l.last = law.equals("gifts") ? v -> 1 : law.equals("doubts") ? v -> 0 : v -> v.get("far");
            w.laws.put(law, l);
        }
        return w;
    }

    // ---- the text ----

    int feed(int a, int b, int c, int d, int e) {
        if (tape.length() + 20 > 2000) {
            return -1;
        }
        for (int x : new int[] {a, b, c, d, e}) {
            tape.append((char) (x >> 24 & 255)).append((char) (x >> 16 & 255))
                .append((char) (x >> 8 & 255)).append((char) (x & 255));
        }
        return tape.length();
    }

    int back(int n) {
        if (n < 0 || n > tape.length()) {
            return -1;
        }
        tape.setLength(tape.length() - n);
        return tape.length();
    }

    int read() {
        String text = tape.toString();
        tape.setLength(0);
        place = -1;
        try {
            now = new Parse(text).world();
        } catch (Fault f) {
            place = f.place;
            return f.number;
        }
        undos.clear();
        told.clear();
        Arrays.fill(slots, null);
        return 0;
    }

    int place() {
        return place;
    }

    private static final class Parse {
        private final List<Token> tokens = new ArrayList<>();
        private final int end;
        private final World world = emptyWorld();
        private int at;
        private Fault later;

        Parse(String text) {
            end = text.length();
            Matcher m = Pattern.compile("[a-z]+|[0-9]+|[^\\t\\n\\r ]").matcher(text);
            while (m.find()) {
                tokens.add(new Token(m.group(), m.start()));
            }
        }

        World world() {
            Fault syntax = null;
            try {
                while (at < tokens.size()) {
                    tell();
                }
            } catch (Fault f) {
                syntax = f;
            }
            Fault first = Fault.first(syntax, room(syntax == null ? end : syntax.place));
            if (first == null) {
                first = later;
            }
            if (first != null) {
                throw first;
            }
            return world;
        }

        /** Looks at the tokens alone; behind a fault of syntax it need not be right. */
        private Fault room(int upTo) {
            Map<String, Integer> tells = new HashMap<>();
            Map<String, Integer> most = Map.of("town", 7, "road", 10, "person", 6);
            int ifs = 0;
            int open = 0;
            for (int i = 0; i < tokens.size() && tokens.get(i).place <= upTo; i++) {
                Token t = tokens.get(i);
                if (!t.isToken()) {
                    return null;
                }
                boolean first = i == 0 || tokens.get(i - 1).text.equals(";");
                if (first) {
                    ifs = 0;
                    open = 0;
                    tells.merge(t.text, 1, Integer::sum);
                }
                ifs += t.text.equals("if") ? 1 : 0;
                open += t.text.equals("(") ? 1 : t.text.equals(")") ? -1 : 0;
                boolean tooMany = first && tells.get(t.text) > most.getOrDefault(t.text, 1000);
                if (i >= 400 || tooMany || t.text.equals("if") && ifs == 5 || t.text.equals("(") && open == 7) {
                    return new Fault(2, t.place);
                }
            }
            return null;
        }

        private String peek() {
            return at < tokens.size() ? tokens.get(at).text : "";
        }

        private Fault syntax() {
            return new Fault(1, at < tokens.size() ? tokens.get(at).place : end);
        }

        private void take(String text) {
            if (!peek().equals(text)) {
                throw syntax();
            }
            at++;
        }

        private Token takeName() {
            if (at >= tokens.size() || !tokens.get(at).isName()) {
                throw syntax();
            }
            return tokens.get(at++);
        }

        private Token takeInt() {
            if (at >= tokens.size() || !tokens.get(at).isInt()) {
                throw syntax();
            }
            return tokens.get(at++);
        }

        private void note(boolean wrong, int number, Token t) {
            if (wrong) {
                later = Fault.first(later, new Fault(number, t.place));
            }
        }

        private int townOf(Token t) {
            for (int i = 0; i < world.towns.size(); i++) {
                if (world.towns.get(i).name.equals(t.text)) {
                    return i;
                }
            }
            note(true, 4, t);
            return -1;
        }

        private boolean isTold(String name) {
            return world.towns.stream().anyMatch(t -> t.name.equals(name))
                || world.people.stream().anyMatch(p -> p.name.equals(name));
        }

        private int number(int least, int most) {
            Token t = takeInt();
            int n = Integer.parseInt(t.text);
            note(n < least || n > most, 5, t);
            return n;
        }

        private void tell() {
            String word = peek();
            if (word.equals("town")) {
                at++;
                Token name = takeName();
                note(isTold(name.text), 3, name);
                world.towns.add(new Town(name.text));
                if (world.capital < 0) {
                    world.capital = 0;
                }
            } else if (word.equals("road")) {
                at++;
                Road r = new Road();
                Token one = takeName();
                r.one = townOf(one);
                Token other = takeName();
                r.other = townOf(other);
                note(r.one == r.other && r.one >= 0, 3, other);
                r.miles = number(1, 99);
                world.roads.add(r);
            } else if (word.equals("person")) {
                at++;
                Person p = new Person();
                Token name = takeName();
                note(isTold(name.text), 3, name);
                p.name = name.text;
                p.honest = number(0, 9);
                p.home = townOf(takeName());
                p.place = townOf(takeName());
                world.people.add(p);
            } else if (word.equals("capital")) {
                at++;
                world.capital = townOf(takeName());
            } else if (word.equals("seed")) {
                at++;
                world.seed = number(0, 9999);
            } else if (LAWS.contains(word)) {
                at++;
                world.laws.put(word, law());
            } else {
                throw syntax();
            }
            take(";");
        }

        private Law law() {
            take("=");
            Law l = new Law();
            while (peek().equals("if")) {
                take("if");
                Expr left = sum();
                take("<");
                Expr right = sum();
                take("then");
                Expr then = sum();
                take("else");
                l.ifs.add(new Expr[] {left, right, then});
            }
            l.last = sum();
            return l;
        }

        private Expr sum() {
            Expr so = part();
            while (peek().equals("+") || peek().equals("-")) {
                boolean plus = peek().equals("+");
                at++;
                Expr left = so;
                Expr right = part();
                so = plus ? v -> left.value(v) + right.value(v) : v -> left.value(v) - right.value(v);
            }
            return so;
        }

        private Expr part() {
            Expr so = unit();
            while (peek().equals("*") || peek().equals("/")) {
                boolean times = peek().equals("*");
                at++;
                Expr left = so;
                Expr right = unit();
                so = times ? v -> left.value(v) * right.value(v) : v -> divided(left.value(v), right.value(v));
            }
            return so;
        }

        private static int divided(int left, int right) {
            if (right == 0) {
                throw new DividedByNought();
            }
            return (int) ((long) left / right);
        }

        private Expr unit() {
            String word = peek();
            if (word.equals("(")) {
                at++;
                Expr in = sum();
                take(")");
                return in;
            }
            if (VARS.contains(word)) {
                at++;
                return v -> v.get(word);
            }
            int n = Integer.parseInt(takeInt().text);
            return v -> n;
        }
    }

    // ---- what is ----

    private boolean isTown(int t) {
        return t >= 0 && t < now.towns.size();
    }

    private boolean isRoad(int r) {
        return r >= 0 && r < now.roads.size();
    }

    private boolean isPerson(int p) {
        return p >= 0 && p < now.people.size();
    }

    private static boolean isSpan(int n) {
        return n >= 0 && n <= 60;
    }

    private int bitsOfPeople(java.util.function.Predicate<Person> which) {
        int bits = 0;
        for (int i = 0; i < now.people.size(); i++) {
            bits |= which.test(now.people.get(i)) ? 1 << i : 0;
        }
        return bits;
    }

    private int bitsOfRoads(java.util.function.IntPredicate which) {
        int bits = 0;
        for (int i = 0; i < now.roads.size(); i++) {
            bits |= which.test(i) ? 1 << i : 0;
        }
        return bits;
    }

    int town(int town, int what) {
        if (!isTown(town)) {
            return -1;
        }
        if (what == 0) {
            return town == now.capital ? 1 : 0;
        }
        if (what == 1) {
            return bitsOfRoads(i -> {
                Road r = now.roads.get(i);
                return !r.closed && (r.one == town || r.other == town);
            });
        }
        if (what == 2) {
            return bitsOfPeople(p -> p.place == town);
        }
        return what == 3 ? now.far(town, now.capital) : -1;
    }

    int road(int road, int what) {
        if (!isRoad(road) || what < 0 || what > 3) {
            return -1;
        }
        Road r = now.roads.get(road);
        return new int[] {r.one, r.other, r.miles, r.closed ? 0 : 1}[what];
    }

    int person(int person, int what) {
        if (!isPerson(person) || what < 0 || what > 12) {
            return -1;
        }
        Person p = now.people.get(person);
        if (what >= 9) {
            return now.law(LAWS.get(what - 9), p);
        }
        return new int[] {p.honest, p.home, p.place, p.goal, p.walked, p.rung, p.purse, p.barred ? 1 : 0, now.farOf(p)}[what];
    }

    // ---- what is done ----

    private void done() {
        undos.push(now.copy());
        if (undos.size() > 40) {
            undos.removeLast();
        }
    }

    boolean send(int person, int town) {
        if (!isPerson(person) || !isTown(town) && town != -1) {
            return false;
        }
        int goal = town == -1 ? -2 : town;
        Person p = now.people.get(person);
        if (p.goal == goal || p.place == goal) {
            return false;
        }
        done();
        p.goal = goal;
        return true;
    }

    boolean close(int road, boolean closed) {
        if (!isRoad(road) || now.roads.get(road).closed == closed) {
            return false;
        }
        done();
        now.roads.get(road).closed = closed;
        return true;
    }

    boolean admit(int person) {
        if (!isPerson(person) || !now.people.get(person).barred) {
            return false;
        }
        done();
        now.people.get(person).barred = false;
        return true;
    }

    int days(int n) {
        if (!isSpan(n)) {
            return -1;
        }
        if (n > 0) {
            done();
        }
        for (int i = 0; i < n; i++) {
            now.noon(true, now.seed);
        }
        return now.day;
    }

    boolean undo() {
        if (undos.isEmpty()) {
            return false;
        }
        now = undos.pop();
        return true;
    }

    // ---- who rings ----

    int ringer() {
        return now.ringer();
    }

    int far(int town, int other) {
        return isTown(town) && isTown(other) ? now.far(town, other) : -1;
    }

    int longest(int town, int other) {
        if (!isTown(town) || !isTown(other)) {
            return -1;
        }
        return now.ways(town, other).stream().mapToInt(Integer::intValue).max().orElse(-2);
    }

    int liars() {
        return bitsOfPeople(p -> now.law("claims", p) != now.farOf(p));
    }

    int truth() {
        int best = -2;
        for (int i = now.people.size() - 1; i >= 0; i--) {
            Person p = now.people.get(i);
            if (p.place == now.capital && !p.barred && (best < 0 || now.farOf(p) >= now.farOf(now.people.get(best)))) {
                best = i;
            }
        }
        return best;
    }

    private World without(int road) {
        World w = now.copy();
        w.roads.get(road).closed = true;
        return w;
    }

    int turns() {
        return bitsOfRoads(i -> !now.roads.get(i).closed && without(i).ringer() != now.ringer());
    }

    int wish(int person) {
        return isPerson(person) ? bitsOfRoads(i -> !now.roads.get(i).closed && without(i).ringer() == person) : -1;
    }

    private static int whenOf(World w, int person) {
        for (int d = 0; d <= 60; d++) {
            if (w.ringer() == person) {
                return d;
            }
            w.noon(false, 0);
        }
        return -2;
    }

    int when(int person) {
        return isPerson(person) ? whenOf(now.copy(), person) : -1;
    }

    int soonest(int person) {
        if (!isPerson(person)) {
            return -1;
        }
        World w = now.copy();
        Person p = w.people.get(person);
        p.goal = p.place == w.capital ? -2 : w.capital;
        return whenOf(w, person);
    }

    private World behind(int n, boolean doubted, int seed) {
        World w = now.copy();
        for (int i = 0; i < n; i++) {
            w.noon(doubted, seed);
        }
        return w;
    }

    int often(int person, int n) {
        if (!isPerson(person) || !isSpan(n)) {
            return -1;
        }
        int times = 0;
        World w = now.copy();
        for (int i = 0; i < n; i++) {
            times += w.ringer() == person ? 1 : 0;
            w.noon(false, 0);
        }
        return times;
    }

    int rings(int n) {
        return isSpan(n) ? behind(n, false, 0).ringer() : -1;
    }

    int walks(int person) {
        return isPerson(person) ? now.walk(now.people.get(person), now.people.get(person).goal) : -1;
    }

    // ---- towns and roads ----

    int stranger(int what) {
        if (what != 0 && what != 1) {
            return -1;
        }
        int most = now.people.stream().mapToInt(p -> now.farOf(p)).max().orElse(-2);
        for (int i = 0; i < now.people.size(); i++) {
            if (now.farOf(now.people.get(i)) == most) {
                return what == 0 ? i : most;
            }
        }
        return -2;
    }

    int clerks(int what) {
        if (what != 0 && what != 1) {
            return -1;
        }
        for (int many = 0; many <= 7; many++) {
            for (int set = 0; set < 128; set++) {
                int s = set;
                if (Integer.bitCount(set) == many
                    && now.roads.stream().allMatch(r -> r.closed || (s >> r.one & 1) == 1 || (s >> r.other & 1) == 1)) {
                    return what == 0 ? many : set;
                }
            }
        }
        return -99;
    }

    private int least(int what, java.util.function.IntUnaryOperator costOf) {
        if (what != 0 && what != 1) {
            return -1;
        }
        int best = -2;
        for (int t = now.towns.size() - 1; t >= 0; t--) {
            if (best < 0 || costOf.applyAsInt(t) <= costOf.applyAsInt(best)) {
                best = t;
            }
        }
        return what == 0 || best < 0 ? best : costOf.applyAsInt(best);
    }

    int centre(int what) {
        return least(what, t -> {
            int most = 0;
            for (int u = 0; u < now.towns.size(); u++) {
                most = Math.max(most, now.far(t, u));
            }
            return most;
        });
    }

    int meet(int what) {
        return least(what, t -> now.people.stream().mapToInt(p -> now.far(p.place, t)).sum());
    }

    /** Every set of open roads is tried. */
    int tree() {
        int best = -2;
        for (int set = 0; set < 1 << now.roads.size() && !now.towns.isEmpty(); set++) {
            World w = now.copy();
            int miles = 0;
            boolean open = true;
            for (int i = 0; i < w.roads.size(); i++) {
                if ((set >> i & 1) == 0) {
                    w.roads.get(i).closed = true;
                } else {
                    open &= !w.roads.get(i).closed;
                    miles += w.roads.get(i).miles;
                }
            }
            if (open && (best < 0 || miles < best) && Integer.bitCount(set) == w.towns.size() - 1) {
                boolean joined = true;
                for (int t = 1; t < w.towns.size() && joined; t++) {
                    joined = w.far(0, t) < 999;
                }
                best = joined ? miles : best;
            }
        }
        return best;
    }

    int bridges() {
        return bitsOfRoads(i -> {
            Road r = now.roads.get(i);
            return !r.closed && without(i).ways(r.one, r.other).isEmpty();
        });
    }

    int steps(int person, int town) {
        if (!isPerson(person) || !isTown(town)) {
            return -1;
        }
        World w = now.copy();
        Person p = w.people.get(person);
        p.goal = town;
        for (int d = 0; d < 10; d++) {
            if (p.place == town) {
                return d;
            }
            w.noon(false, 0);
        }
        return -2;
    }

    // ---- in n days ----

    int then(int person, int n) {
        return isPerson(person) && isSpan(n) ? behind(n, true, now.seed).people.get(person).place : -1;
    }

    int rungIn(int person, int n) {
        return isPerson(person) && isSpan(n) ? behind(n, true, now.seed).people.get(person).rung : -1;
    }

    int barredIn(int n) {
        if (!isSpan(n)) {
            return -1;
        }
        World w = behind(n, true, now.seed);
        return bitsOfPeople(p -> w.people.get(now.people.indexOf(p)).barred);
    }

    int year(int person, int n, int s) {
        if (!isPerson(person) || !isSpan(n) || s < 1 || s > 20) {
            return -1;
        }
        int found = 0;
        for (int seed = now.seed; seed < now.seed + s; seed++) {
            World w = now.copy();
            boolean rang = false;
            for (int i = 0; i < n; i++) {
                w.noon(true, seed);
                rang |= w.last == person;
            }
            found += rang ? 1 : 0;
        }
        return found;
    }

    // ---- hearsay ----

    int tell(int v, boolean so) {
        if (told.size() == 20 || v < 0 || v > 999) {
            return -1;
        }
        told.add(new int[] {v, so ? 1 : 0});
        return told.size() - 1;
    }

    int forget() {
        int had = told.size();
        told.clear();
        return had;
    }

    private List<Integer> homes(int k, int person) {
        List<Integer> left = new ArrayList<>();
        for (int t = 0; t < now.towns.size(); t++) {
            int strokes = now.law("strokes", now.people.get(person), t);
            if (told.subList(0, k).stream().allMatch(x -> (strokes >= x[0]) == (x[1] == 1))) {
                left.add(t);
            }
        }
        return left;
    }

    private boolean isKnown(int k) {
        return k >= 0 && k <= told.size();
    }

    int whence(int k, int person, int what) {
        if (!isKnown(k) || !isPerson(person) || what != 0 && what != 1) {
            return -1;
        }
        List<Integer> left = homes(k, person);
        return what == 0 ? left.size() : left.stream().mapToInt(t -> 1 << t).sum();
    }

    int listen(int k, int person) {
        if (!isKnown(k) || !isPerson(person)) {
            return -1;
        }
        List<Integer> left = homes(k, person);
        if (left.isEmpty()) {
            return -2;
        }
        List<Integer> strokes = new ArrayList<>();
        for (int t : left) {
            strokes.add(now.law("strokes", now.people.get(person), t));
        }
        int best = 0;
        int fewest = 1000;
        for (int v = 1; v <= 999; v++) {
            int so = 0;
            for (int s : strokes) {
                so += s >= v ? 1 : 0;
            }
            if (Math.max(so, strokes.size() - so) < fewest) {
                fewest = Math.max(so, strokes.size() - so);
                best = v;
            }
        }
        return best;
    }

    // ---- held ----

    boolean hold(int slot) {
        if (slot < 0 || slot > 2) {
            return false;
        }
        slots[slot] = now.copy();
        return true;
    }

    boolean restore(int slot) {
        if (slot < 0 || slot > 2 || slots[slot] == null) {
            return false;
        }
        now = slots[slot].copy();
        undos.clear();
        return true;
    }

    int count(int what) {
        switch (what) {
            case 0:
                return now.towns.size();
            case 1:
                return now.roads.size();
            case 2:
                return now.people.size();
            case 3:
                return now.day;
            case 4:
                return now.last;
            case 5:
                return now.lastStrokes;
            case 6:
                return bitsOfPeople(p -> p.barred);
            case 7:
                return bitsOfRoads(i -> now.roads.get(i).closed);
            case 8:
                return tape.length();
            case 9:
                return undos.size();
            case 10:
                return told.size();
            case 11:
                return (int) Arrays.stream(slots).filter(s -> s != null).count();
            case 12:
                return bitsOfPeople(p -> p.place == now.capital);
            case 13:
                return now.people.stream().mapToInt(p -> p.rung).sum();
            case 14:
                return now.people.stream().mapToInt(p -> p.purse).sum();
            case 15:
                return bitsOfPeople(p -> p.goal >= 0);
            case 16:
                return now.roads.stream().filter(r -> !r.closed).mapToInt(r -> r.miles).sum();
            default:
                return -1;
        }
    }

    /** So that tests can feed a text as one. */
    static int[] bytesOf(String text) {
        byte[] bytes = text.getBytes(StandardCharsets.ISO_8859_1);
        int[] fours = new int[(bytes.length + 19) / 20 * 5];
        Arrays.fill(fours, 0x20202020);
        for (int i = 0; i < bytes.length; i++) {
            int shift = 24 - i % 4 * 8;
            fours[i / 4] = fours[i / 4] & ~(255 << shift) | (bytes[i] & 255) << shift;
        }
        return fours;
    }
}
