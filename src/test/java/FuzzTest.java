import java.util.ArrayList;
import java.util.List;
import java.util.Random;

/** Holds the class to the Oracle in long runs of calls, made from seeds that are always the same. */
public final class FuzzTest {
    private static final int RUNS = 1500;
    private static final int CALLS = 300;
    /** A last step that feeds a text makes some hundred calls more; what is answered behind the 512th is free. */
    private static final int MOST_CALLS = 400;
    private static final int TEXTS = 60000;

    private final Check check = new Check();
    private final int[] faults = new int[6];
    private Random random;
    private TextMaker maker;
    private NoonRinger ringer;
    private Oracle oracle;
    private List<String> calls;

    public static void main(String[] args) {
        FuzzTest fuzz = new FuzzTest();
        int more = args.length > 0 ? Integer.parseInt(args[0]) : 0;
        for (int run = 0; run < RUNS && fuzz.check.wrong() == 0; run++) {
            fuzz.run(run + more);
        }
        fuzz.readTexts(more);
        for (int fault = 0; fault <= 5; fault++) {
            System.out.println(fuzz.faults[fault] + " texts with fault " + fault + " were read");
            fuzz.check.due("enough texts with fault " + fault, fuzz.faults[fault] > 500, true);
        }
        fuzz.check.end();
    }

    private void begin(long seed) {
        random = new Random(seed);
        maker = new TextMaker(random);
        ringer = new NoonRinger();
        oracle = new Oracle();
        calls = new ArrayList<>();
    }

    private void run(long seed) {
        begin(seed);
        feedText(maker.good());
        due("read()", ringer.read(), oracle.read());
        for (int i = 0; i < CALLS && calls.size() < MOST_CALLS && check.wrong() == 0; i++) {
            call();
        }
        if (check.wrong() != 0) {
            System.out.println("run " + seed + ": " + String.join("; ", calls));
        }
    }

    private void readTexts(long more) {
        for (int i = 0; i < TEXTS && check.wrong() == 0; i++) {
            begin(1000000 + more + i);
            String text = maker.any();
            feedText(text);
            int fault = oracle.read();
            faults[fault]++;
            due("read() of " + text, ringer.read(), fault);
            due("place() of " + text, ringer.place(), oracle.place());
            due("count(2) of " + text, ringer.count(2), oracle.count(2));
        }
    }

    private void feedText(String text) {
        calls.add("text " + text);
        int[] fours = Oracle.bytesOf(text);
        for (int i = 0; i < fours.length; i += 5) {
            due("feed", ringer.feed(fours[i], fours[i + 1], fours[i + 2], fours[i + 3], fours[i + 4]),
                oracle.feed(fours[i], fours[i + 1], fours[i + 2], fours[i + 3], fours[i + 4]));
        }
        int more = fours.length * 4 - text.length();
        due("back", ringer.back(more), oracle.back(more));
    }

    private void due(String call, long got, long want) {
        calls.add(call);
        check.due(call, got, want);
    }

    private void due(String call, boolean got, boolean want) {
        due(call, got ? 1 : 0, want ? 1 : 0);
    }

    /** Mostly from 0 to most, now and then beside it or far from it. */
    private int upTo(int most) {
        int odd = random.nextInt(40);
        if (odd == 0) {
            return random.nextInt(2) == 0 ? -1 : most + 1;
        }
        if (odd == 1) {
            int[] wild = {Integer.MIN_VALUE, Integer.MAX_VALUE, -2, 31, 32, 1 << 20, random.nextInt()};
            return wild[random.nextInt(wild.length)];
        }
        return random.nextInt(most + 1);
    }

    private int aTown() {
        return upTo(Math.max(0, oracle.count(0) - 1));
    }

    private int aRoad() {
        return upTo(Math.max(0, oracle.count(1) - 1));
    }

    private int aPerson() {
        return upTo(Math.max(0, oracle.count(2) - 1));
    }

    private void call() {
        int kind = random.nextInt(100);
        if (kind < 30) {
            act();
        } else if (kind < 55) {
            look();
        } else if (kind < 75) {
            askOfNow();
        } else if (kind < 90) {
            askOfLater();
        } else {
            hear();
        }
    }

    private void act() {
        int p = aPerson();
        int t = random.nextInt(6) == 0 ? -1 : aTown();
        int r = aRoad();
        int n = upTo(random.nextInt(3) == 0 ? 60 : 3);
        boolean closed = random.nextInt(5) < 3;
        switch (random.nextInt(13)) {
            case 0:
            case 1:
            case 2:
                due("send(" + p + ", " + t + ")", ringer.send(p, t), oracle.send(p, t));
                break;
            case 3:
            case 4:
                due("close(" + r + ", " + closed + ")", ringer.close(r, closed), oracle.close(r, closed));
                break;
            case 5:
                due("admit(" + p + ")", ringer.admit(p), oracle.admit(p));
                break;
            case 6:
            case 7:
            case 8:
                due("days(" + n + ")", ringer.days(n), oracle.days(n));
                break;
            case 9:
                due("undo()", ringer.undo(), oracle.undo());
                break;
            case 10:
                due("hold(" + t + ")", ringer.hold(t), oracle.hold(t));
                break;
            case 11:
                due("restore(" + t + ")", ringer.restore(t), oracle.restore(t));
                break;
            default:
                if (random.nextInt(8) == 0) {
                    feedText(maker.any());
                    due("read()", ringer.read(), oracle.read());
                    due("place()", ringer.place(), oracle.place());
                }
        }
    }

    private void look() {
        int p = aPerson();
        int t = aTown();
        int r = aRoad();
        int what = upTo(16);
        switch (random.nextInt(5)) {
            case 0:
                due("count(" + what + ")", ringer.count(what), oracle.count(what));
                break;
            case 1:
                due("town(" + t + ", " + what % 4 + ")", ringer.town(t, what % 4), oracle.town(t, what % 4));
                break;
            case 2:
                due("road(" + r + ", " + what % 4 + ")", ringer.road(r, what % 4), oracle.road(r, what % 4));
                break;
            case 3:
                due("town(" + t + ", " + what + ")", ringer.town(t, what), oracle.town(t, what));
                due("road(" + r + ", " + what + ")", ringer.road(r, what), oracle.road(r, what));
                break;
            default:
                due("person(" + p + ", " + what + ")", ringer.person(p, what), oracle.person(p, what));
        }
    }

    private void askOfNow() {
        int p = aPerson();
        int t = aTown();
        int u = aTown();
        int what = upTo(1);
        switch (random.nextInt(15)) {
            case 0:
                due("ringer()", ringer.ringer(), oracle.ringer());
                break;
            case 1:
                due("far(" + t + ", " + u + ")", ringer.far(t, u), oracle.far(t, u));
                break;
            case 2:
                due("longest(" + t + ", " + u + ")", ringer.longest(t, u), oracle.longest(t, u));
                break;
            case 3:
                due("liars()", ringer.liars(), oracle.liars());
                break;
            case 4:
                due("truth()", ringer.truth(), oracle.truth());
                break;
            case 5:
                due("turns()", ringer.turns(), oracle.turns());
                break;
            case 6:
                due("wish(" + p + ")", ringer.wish(p), oracle.wish(p));
                break;
            case 7:
                due("walks(" + p + ")", ringer.walks(p), oracle.walks(p));
                break;
            case 8:
                due("stranger(" + what + ")", ringer.stranger(what), oracle.stranger(what));
                break;
            case 9:
                due("clerks(" + what + ")", ringer.clerks(what), oracle.clerks(what));
                break;
            case 10:
                due("centre(" + what + ")", ringer.centre(what), oracle.centre(what));
                break;
            case 11:
                due("meet(" + what + ")", ringer.meet(what), oracle.meet(what));
                break;
            case 12:
                if (random.nextInt(4) == 0) {
                    due("tree()", ringer.tree(), oracle.tree());
                }
                break;
            case 13:
                due("bridges()", ringer.bridges(), oracle.bridges());
                break;
            default:
                due("steps(" + p + ", " + t + ")", ringer.steps(p, t), oracle.steps(p, t));
        }
    }

    private void askOfLater() {
        int p = aPerson();
        int n = upTo(random.nextInt(3) == 0 ? 60 : 8);
        int s = random.nextInt(12) == 0 ? upTo(21) : 1 + random.nextInt(3);
        switch (random.nextInt(8)) {
            case 0:
                due("when(" + p + ")", ringer.when(p), oracle.when(p));
                break;
            case 1:
                due("soonest(" + p + ")", ringer.soonest(p), oracle.soonest(p));
                break;
            case 2:
                due("often(" + p + ", " + n + ")", ringer.often(p, n), oracle.often(p, n));
                break;
            case 3:
                due("rings(" + n + ")", ringer.rings(n), oracle.rings(n));
                break;
            case 4:
                due("then(" + p + ", " + n + ")", ringer.then(p, n), oracle.then(p, n));
                break;
            case 5:
                due("rungIn(" + p + ", " + n + ")", ringer.rungIn(p, n), oracle.rungIn(p, n));
                break;
            case 6:
                due("barredIn(" + n + ")", ringer.barredIn(n), oracle.barredIn(n));
                break;
            default:
                due("year(" + p + ", " + n + ", " + s + ")", ringer.year(p, n, s), oracle.year(p, n, s));
        }
    }

    private void hear() {
        int p = aPerson();
        int k = upTo(Math.max(0, oracle.count(10)));
        int what = upTo(1);
        switch (random.nextInt(8)) {
            case 0:
            case 1:
            case 2:
                int strokes = random.nextInt(3) == 0 ? upTo(999) : Math.max(0, oracle.person(p, 10) + random.nextInt(21) - 10);
                boolean so = random.nextInt(3) == 0 ? random.nextBoolean() : oracle.person(p, 10) >= strokes;
                due("tell(" + strokes + ", " + so + ")", ringer.tell(strokes, so), oracle.tell(strokes, so));
                break;
            case 3:
                if (random.nextInt(4) == 0) {
                    due("forget()", ringer.forget(), oracle.forget());
                }
                break;
            case 4:
            case 5:
                due("whence(" + k + ", " + p + ", " + what + ")", ringer.whence(k, p, what), oracle.whence(k, p, what));
                break;
            default:
                due("listen(" + k + ", " + p + ")", ringer.listen(k, p), oracle.listen(k, p));
        }
    }
}
