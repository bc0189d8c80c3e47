/**
 * A capital where noon is rung by whoever in it has come the longest way.
 *
 * <p>All rows are made once, in constructors, and used again: no call makes an object.
 */
public final class NoonRinger {
    public static final int NONE = -1;

    /** Nobody, nowhere, no way, never: what is answered where there is nothing to name. */
    private static final int NOT = -2;
    private static final int NO_WAY = 999;
    private static final int MOST_TOWNS = 7;
    private static final int MOST_ROADS = 10;
    private static final int MOST_PEOPLE = 6;
    private static final int MOST_DAYS = 60;
    private static final int MOST_SEEDS = 20;
    private static final int MOST_STROKES = 999;
    private static final int MOST_UNDONE = 40;
    private static final int SLOTS = 3;

    private final Tape tape = new Tape();
    private final Realm realm = new Realm();
    private final Reader reader = new Reader(tape);
    private final Ways ways = new Ways(realm);
    private final Ways otherWays = new Ways(realm);
    private final Survey survey = new Survey(realm, ways);
    private final Judge judge = new Judge(realm, ways);
    private final Judge otherJudge = new Judge(realm, otherWays);
    private final State now = new State();
    private final State wouldBe = new State();
    private final Shelf past = new Shelf(MOST_UNDONE);
    private final Shelf slots = new Shelf(SLOTS);
    private final Hearsay hearsay = new Hearsay(realm, judge);
    private int undoable;
    private int newest;
    private int heldSlots;
    private int faultPlace = NONE;

    public NoonRinger() {
        realm.clear();
        beginAnew();
    }

    // ---- The tape and its text ----

    public int feed(int a, int b, int c, int d, int e) {
        if (!tape.hasRoomForFive()) {
            return NONE;
        }
        tape.append(a);
        tape.append(b);
        tape.append(c);
        tape.append(d);
        tape.append(e);
        return tape.size();
    }

    public int back(int n) {
        return tape.cut(n) ? tape.size() : NONE;
    }

    public int read() {
        int fault = reader.readText();
        faultPlace = reader.faultPlace();
        tape.clear();
        if (fault == Reader.NO_FAULT) {
            realm.copyFrom(reader.draft());
            beginAnew();
        }
        return fault;
    }

    public int place() {
        return faultPlace;
    }

    private void beginAnew() {
        now.begin(realm);
        ways.measure(now.get(State.CLOSED));
        hearsay.clear();
        undoable = 0;
        heldSlots = 0;
    }

    // ---- What is ----

    public int town(int town, int what) {
        if (!realm.isTown(town)) {
            return NONE;
        }
        switch (what) {
            case 0:
                return town == realm.capital() ? 1 : 0;
            case 1:
                return survey.openRoadsOf(town);
            case 2:
                return now.peopleIn(town, realm.people());
            case 3:
                return ways.between(town, realm.capital());
            default:
                return NONE;
        }
    }

    public int road(int road, int what) {
        if (!realm.isRoad(road)) {
            return NONE;
        }
        switch (what) {
            case 0:
                return realm.oneEndOf(road);
            case 1:
                return realm.otherEndOf(road);
            case 2:
                return realm.milesOf(road);
            case 3:
                return ways.isOpen(road) ? 1 : 0;
            default:
                return NONE;
        }
    }

    public int person(int person, int what) {
        if (!realm.isPerson(person)) {
            return NONE;
        }
        switch (what) {
            case 0:
                return realm.honestyOf(person);
            case 1:
                return realm.homeOf(person);
            case 2:
                return now.of(person, State.PLACE);
            case 3:
                return now.of(person, State.GOAL);
            case 4:
                return now.of(person, State.WALKED);
            case 5:
                return now.of(person, State.RUNG);
            case 6:
                return now.of(person, State.PURSE);
            case 7:
                return now.isBarred(person) ? 1 : 0;
            case 8:
                return judge.trueFarOf(person);
            case 9:
                return judge.lawNow(now, person, Laws.CLAIMS);
            case 10:
                return judge.lawNow(now, person, Laws.STROKES);
            case 11:
                return judge.lawNow(now, person, Laws.GIFTS);
            case 12:
                return judge.lawNow(now, person, Laws.DOUBTS);
            default:
                return NONE;
        }
    }

    // ---- What is done by hand ----

    public boolean send(int person, int town) {
        if (!realm.isPerson(person) || town != NONE && !realm.isTown(town)) {
            return false;
        }
        int goal = town == NONE ? NOT : town;
        if (goal == now.of(person, State.GOAL) || goal == now.of(person, State.PLACE)) {
            return false;
        }
        remember();
        now.setOf(person, State.GOAL, goal);
        return true;
    }

    public boolean close(int road, boolean closed) {
        if (!realm.isRoad(road) || closed != ways.isOpen(road)) {
            return false;
        }
        remember();
        now.set(State.CLOSED, now.get(State.CLOSED) ^ bit(road));
        ways.measure(now.get(State.CLOSED));
        return true;
    }

    public boolean admit(int person) {
        if (!realm.isPerson(person) || !now.isBarred(person)) {
            return false;
        }
        remember();
        now.set(State.BARRED, now.get(State.BARRED) & ~bit(person));
        return true;
    }

    public int days(int n) {
        if (!isSpan(n)) {
            return NONE;
        }
        if (n > 0) {
            remember();
        }
        for (int day = 0; day < n; day++) {
            judge.goThroughNoon(now, realm.seed(), true);
        }
        return now.get(State.DAY);
    }

    public boolean undo() {
        if (undoable <= 0) {
            return false;
        }
        past.take(newest, now);
        newest = (newest + MOST_UNDONE - 1) % MOST_UNDONE;
        undoable--;
        ways.measure(now.get(State.CLOSED));
        return true;
    }

    private void remember() {
        newest = (newest + 1) % MOST_UNDONE;
        past.keep(newest, now);
        undoable = Math.min(undoable + 1, MOST_UNDONE);
    }

    // ---- Who rings, how far it is, who lies ----

    public int ringer() {
        return judge.ringerOf(now);
    }

    public int far(int town, int other) {
        return realm.isTown(town) && realm.isTown(other) ? ways.between(town, other) : NONE;
    }

    public int longest(int town, int other) {
        return realm.isTown(town) && realm.isTown(other) ? survey.longestWay(town, other) : NONE;
    }

    public int liars() {
        int found = 0;
        for (int person = 0; person < realm.people(); person++) {
            if (judge.lies(now, person)) {
                found |= bit(person);
            }
        }
        return found;
    }

    public int truth() {
        return judge.trueRingerOf(now);
    }

    public int turns() {
        int ringer = judge.ringerOf(now);
        int found = 0;
        for (int road = 0; road < realm.roads(); road++) {
            if (ways.isOpen(road) && ringerWithout(road) != ringer) {
                found |= bit(road);
            }
        }
        return found;
    }

    public int wish(int person) {
        if (!realm.isPerson(person)) {
            return NONE;
        }
        int found = 0;
        for (int road = 0; road < realm.roads(); road++) {
            if (ways.isOpen(road) && ringerWithout(road) == person) {
                found |= bit(road);
            }
        }
        return found;
    }

    private int ringerWithout(int road) {
        otherWays.measure(now.get(State.CLOSED) | bit(road));
        return otherJudge.ringerOf(now);
    }

    // ---- What would be, nobody being found out ----

    public int when(int person) {
        if (!realm.isPerson(person)) {
            return NONE;
        }
        wouldBe.copyFrom(now);
        return firstNoonOf(person);
    }

    public int soonest(int person) {
        if (!realm.isPerson(person)) {
            return NONE;
        }
        wouldBe.copyFrom(now);
        boolean isThere = now.of(person, State.PLACE) == realm.capital();
        wouldBe.setOf(person, State.GOAL, isThere ? NOT : realm.capital());
        return firstNoonOf(person);
    }

    private int firstNoonOf(int person) {
        for (int day = 0; day <= MOST_DAYS; day++) {
            judge.goThroughNoon(wouldBe, realm.seed(), false);
            if (wouldBe.get(State.LAST_RINGER) == person) {
                return day;
            }
        }
        return NOT;
    }

    public int often(int person, int n) {
        if (!realm.isPerson(person) || !isSpan(n)) {
            return NONE;
        }
        goOnTrusting(n);
        return wouldBe.of(person, State.RUNG) - now.of(person, State.RUNG);
    }

    public int rings(int n) {
        if (!isSpan(n)) {
            return NONE;
        }
        goOnTrusting(n);
        return judge.ringerOf(wouldBe);
    }

    private void goOnTrusting(int n) {
        wouldBe.copyFrom(now);
        for (int day = 0; day < n; day++) {
            judge.goThroughNoon(wouldBe, realm.seed(), false);
        }
    }

    public int walks(int person) {
        if (!realm.isPerson(person)) {
            return NONE;
        }
        return ways.roadToward(now.of(person, State.PLACE), now.of(person, State.GOAL));
    }

    // ---- The towns and the roads between them ----

    public int stranger(int what) {
        if (what != 0 && what != 1) {
            return NONE;
        }
        int who = judge.strangerOf();
        if (who < 0) {
            return NOT;
        }
        return what == 0 ? who : judge.trueFarOf(who);
    }

    public int clerks(int what) {
        if (what != 0 && what != 1) {
            return NONE;
        }
        int which = survey.clerkTowns();
        return what == 0 ? Integer.bitCount(which) : which;
    }

    public int centre(int what) {
        if (what != 0 && what != 1) {
            return NONE;
        }
        int which = survey.centralTown();
        if (which < 0) {
            return NOT;
        }
        return what == 0 ? which : survey.greatestFarFrom(which);
    }

    public int meet(int what) {
        if (what != 0 && what != 1) {
            return NONE;
        }
        int which = survey.meetingTown(now);
        if (which < 0) {
            return NOT;
        }
        return what == 0 ? which : survey.allFarTo(which, now);
    }

    public int tree() {
        return survey.leastMilesToJoin();
    }

    public int bridges() {
        int found = 0;
        for (int road = 0; road < realm.roads(); road++) {
            if (ways.isOpen(road)) {
                otherWays.measure(now.get(State.CLOSED) | bit(road));
                int left = otherWays.between(realm.oneEndOf(road), realm.otherEndOf(road));
                found |= left == NO_WAY ? bit(road) : 0;
            }
        }
        return found;
    }

    public int steps(int person, int town) {
        if (!realm.isPerson(person) || !realm.isTown(town)) {
            return NONE;
        }
        int at = now.of(person, State.PLACE);
        for (int day = 0; day <= MOST_TOWNS; day++) {
            if (at == town) {
                return day;
            }
            at = realm.acrossFrom(at, ways.roadToward(at, town));
        }
        return NOT;
    }

    // ---- What would be, liars being found out ----

    public int then(int person, int n) {
        if (!realm.isPerson(person) || !isSpan(n)) {
            return NONE;
        }
        goOnDoubting(n, realm.seed());
        return wouldBe.of(person, State.PLACE);
    }

    public int rungIn(int person, int n) {
        if (!realm.isPerson(person) || !isSpan(n)) {
            return NONE;
        }
        goOnDoubting(n, realm.seed());
        return wouldBe.of(person, State.RUNG);
    }

    public int barredIn(int n) {
        if (!isSpan(n)) {
            return NONE;
        }
        goOnDoubting(n, realm.seed());
        return wouldBe.get(State.BARRED);
    }

    public int year(int person, int n, int s) {
        if (!realm.isPerson(person) || !isSpan(n) || s < 1 || s > MOST_SEEDS) {
            return NONE;
        }
        int found = 0;
        for (int more = 0; more < s; more++) {
            goOnDoubting(n, realm.seed() + more);
            if (wouldBe.of(person, State.RUNG) > now.of(person, State.RUNG)) {
                found++;
            }
        }
        return found;
    }

    private void goOnDoubting(int n, int seed) {
        wouldBe.copyFrom(now);
        for (int day = 0; day < n; day++) {
            judge.goThroughNoon(wouldBe, seed, true);
        }
    }

    // ---- From where a ringer came ----

    public int tell(int v, boolean so) {
        return hearsay.add(v, so);
    }

    public int forget() {
        int had = hearsay.size();
        hearsay.clear();
        return had;
    }

    public int whence(int k, int person, int what) {
        if (!isKnown(k) || !realm.isPerson(person) || what != 0 && what != 1) {
            return NONE;
        }
        int homes = hearsay.homesLeft(now, k, person);
        return what == 0 ? Integer.bitCount(homes) : homes;
    }

    public int listen(int k, int person) {
        if (!isKnown(k) || !realm.isPerson(person)) {
            return NONE;
        }
        return hearsay.bestQuestion(hearsay.homesLeft(now, k, person));
    }

    private boolean isKnown(int k) {
        return k >= 0 && k <= hearsay.size();
    }

    // ---- Held and gone on from ----

    public boolean hold(int slot) {
        if (!isSlot(slot)) {
            return false;
        }
        slots.keep(slot, now);
        heldSlots |= bit(slot);
        return true;
    }

    public boolean restore(int slot) {
        if (!isSlot(slot) || (heldSlots & bit(slot)) == 0) {
            return false;
        }
        slots.take(slot, now);
        undoable = 0;
        ways.measure(now.get(State.CLOSED));
        return true;
    }

    public int count(int what) {
        switch (what) {
            case 0:
                return realm.towns();
            case 1:
                return realm.roads();
            case 2:
                return realm.people();
            case 3:
                return now.get(State.DAY);
            case 4:
                return now.get(State.LAST_RINGER);
            case 5:
                return now.get(State.LAST_STROKES);
            case 6:
                return now.get(State.BARRED);
            case 7:
                return now.get(State.CLOSED);
            case 8:
                return tape.size();
            case 9:
                return undoable;
            case 10:
                return hearsay.size();
            case 11:
                return Integer.bitCount(heldSlots);
            case 12:
                return now.peopleIn(realm.capital(), realm.people());
            case 13:
                return now.sumOf(State.RUNG, realm.people());
            case 14:
                return now.sumOf(State.PURSE, realm.people());
            case 15:
                return now.goers(realm.people());
            case 16:
                return survey.openMiles();
            default:
                return NONE;
        }
    }

    // ---- Small things that all parts need ----

    private static boolean isSpan(int n) {
        return n >= 0 && n <= MOST_DAYS;
    }

    private static boolean isSlot(int slot) {
        return slot >= 0 && slot < SLOTS;
    }

    private static int bit(int index) {
        return index >= 0 && index < 31 ? 1 << index : 0;
    }

    private static int at(int[] row, int index) {
        return row != null && index >= 0 && index < row.length ? row[index] : 0;
    }

    private static void put(int[] row, int index, int value) {
        if (row != null && index >= 0 && index < row.length) {
            row[index] = value;
        }
    }

    private static long longAt(long[] row, int index) {
        return row != null && index >= 0 && index < row.length ? row[index] : 0;
    }

    private static void putLong(long[] row, int index, long value) {
        if (row != null && index >= 0 && index < row.length) {
            row[index] = value;
        }
    }

    private static void copyAll(int[] from, int[] to) {
        if (from != null && to != null) {
            for (int i = 0; i < from.length && i < to.length; i++) {
                to[i] = from[i];
            }
        }
    }

    /** The bytes that were fed and are not read yet. */
    private static final class Tape {
        static final int LENGTH = 2000;
        private static final int FED_AT_ONCE = 20;

        private final byte[] bytes = new byte[LENGTH];
        private int length;

        int size() {
            return length;
        }

        void clear() {
            length = 0;
        }

        boolean hasRoomForFive() {
            return length <= LENGTH - FED_AT_ONCE;
        }

        void append(int four) {
            for (int shift = 24; shift >= 0; shift -= 8) {
                if (length >= 0 && length < bytes.length) {
                    bytes[length] = (byte) (four >>> shift);
                    length++;
                }
            }
        }

        boolean cut(int n) {
            if (n < 0 || n > length) {
                return false;
            }
            length -= n;
            return true;
        }

        int byteAt(int index) {
            return index >= 0 && index < bytes.length ? bytes[index] & 255 : 0;
        }
    }

    /** The tokens of the tape, each with its kind, the byte it begins at and its value. */
    private static final class Tokens {
        static final int MOST = 400;
        static final int END = 0;
        static final int BAD = 1;
        static final int NAME = 2;
        static final int INT = 3;
        static final int SEMICOLON = 4;
        static final int EQUALS = 5;
        static final int PLUS = 6;
        static final int MINUS = 7;
        static final int STAR = 8;
        static final int SLASH = 9;
        static final int LESS = 10;
        static final int OPEN = 11;
        static final int CLOSE = 12;
        static final int TOWN = 13;
        static final int ROAD = 14;
        static final int PERSON = 15;
        static final int CAPITAL = 16;
        static final int CLAIMS = 17;
        static final int STROKES = 18;
        static final int GIFTS = 19;
        static final int DOUBTS = 20;
        static final int SEED = 21;
        static final int IF = 22;
        static final int THEN = 23;
        static final int ELSE = 24;
        static final int FIRST_VAR = 25;
        static final int LAST_VAR = 33;

        /** In the order of their kinds, from SEMICOLON on. */
        private static final String SIGNS = ";=+-*/<()";
        /** In the order of their kinds, from TOWN on; a blank ends each one, the last too. */
        private static final String WORDS =
            "town road person capital claims strokes gifts doubts seed if then else far walked honest rung day which claim there purse ";
        private static final int WORD_COUNT = LAST_VAR - TOWN + 1;
        private static final int LONGEST_NAME = 8;
        private static final int LONGEST_INT = 4;

        /** The 401st is still asked for its kind; the one behind it only ends it. */
        private static final int MOST_SCANNED = MOST + 2;

        private final int[] kinds = new int[MOST_SCANNED];
        private final int[] starts = new int[MOST_SCANNED];
        private final long[] values = new long[MOST_SCANNED];
        private final long[] words = new long[WORD_COUNT];
        private int count;
        private int end;

        Tokens() {
            int word = 0;
            long letters = 0;
            for (int i = 0; i < WORDS.length(); i++) {
                char sign = WORDS.charAt(i);
                if (sign == ' ') {
                    putLong(words, word, letters);
                    word++;
                    letters = 0;
                } else {
                    letters = withLetter(letters, sign);
                }
            }
        }

        /** Eight letters fit into a long, so that no text is made of a name. */
        private static long withLetter(long letters, int sign) {
            return letters * 27 + (sign - 'a' + 1);
        }

        int kindAt(int token) {
            return token >= 0 && token < count && token < kinds.length ? kinds[token] : END;
        }

        int startOf(int token) {
            return token < count ? at(starts, token) : end;
        }

        long valueOf(int token) {
            return token < count ? longAt(values, token) : 0;
        }

        void scan(Tape tape) {
            count = 0;
            end = tape.size();
            int before = END;
            for (int i = 0; i < end && count < MOST_SCANNED; i++) {
                int sign = tape.byteAt(i);
                int kind = kindBegunBy(sign);
                boolean isLong = kind == NAME || kind == INT;
                if (kind != END && !(isLong && kind == before)) {
                    begin(kind, i);
                }
                if (isLong) {
                    grow(kind, sign, i);
                }
                before = kind;
            }
            for (int token = 0; token < count; token++) {
                if (kindAt(token) == NAME) {
                    put(kinds, token, kindOfWord(valueOf(token)));
                }
            }
        }

        /** END for a blank, which begins none. */
        private static int kindBegunBy(int sign) {
            if (sign == 9 || sign == 10 || sign == 13 || sign == 32) {
                return END;
            }
            if (sign >= 'a' && sign <= 'z') {
                return NAME;
            }
            if (sign >= '0' && sign <= '9') {
                return INT;
            }
            int known = SIGNS.indexOf((char) sign);
            return known >= 0 ? SEMICOLON + known : BAD;
        }

        private void begin(int kind, int place) {
            put(kinds, count, kind);
            put(starts, count, place);
            putLong(values, count, 0);
            count++;
        }

        private void grow(int kind, int sign, int place) {
            int token = count - 1;
            int length = place - startOf(token) + 1;
            if (length > (kind == NAME ? LONGEST_NAME : LONGEST_INT)) {
                put(kinds, token, BAD);
                return;
            }
            long grown = kind == NAME ? withLetter(valueOf(token), sign) : valueOf(token) * 10 + (sign - '0');
            putLong(values, token, grown);
        }

        private int kindOfWord(long letters) {
            for (int word = 0; word < words.length; word++) {
                if (words[word] == letters) {
                    return TOWN + word;
                }
            }
            return NAME;
        }
    }

    /** Reads a text into a draft, so that one with a fault changes nothing. */
    private static final class Reader {
        static final int NO_FAULT = 0;
        private static final int SYNTAX = 1;
        private static final int ROOM = 2;
        private static final int TWICE = 3;
        private static final int NAME = 4;
        private static final int WRONG = 5;
        private static final int MOST_IFS = 4;
        private static final int MOST_NESTED = 6;
        /** In each of the brackets and outside of them one sum and one product can wait. */
        private static final int MOST_WAITING = 3 * (MOST_NESTED + 1);

        private final Tape tape;
        private final Tokens tokens = new Tokens();
        private final Realm draft = new Realm();
        private final int[] waiting = new int[MOST_WAITING];
        private int waitingCount;
        private int next;
        /** Where it is not NO_FAULT, the next token is the one at fault: none is taken any more. */
        private int fault;
        private int laterFault;
        private int laterFaultToken;

        Reader(Tape tape) {
            this.tape = tape;
        }

        Realm draft() {
            return draft;
        }

        int faultPlace() {
            if (fault != NO_FAULT) {
                return tokens.startOf(next);
            }
            return laterFault != NO_FAULT ? tokens.startOf(laterFaultToken) : NONE;
        }

        int readText() {
            tokens.scan(tape);
            draft.clear();
            next = 0;
            fault = NO_FAULT;
            laterFault = NO_FAULT;
            for (int tells = 0; tells <= Tokens.MOST && fault == NO_FAULT && tokens.kindAt(next) != Tokens.END; tells++) {
                switch (tokens.kindAt(next)) {
                    case Tokens.TOWN:
                        readTown();
                        break;
                    case Tokens.ROAD:
                        readRoad();
                        break;
                    case Tokens.PERSON:
                        readPerson();
                        break;
                    case Tokens.CAPITAL:
                        readCapital();
                        break;
                    case Tokens.SEED:
                        readSeed();
                        break;
                    case Tokens.CLAIMS:
                    case Tokens.STROKES:
                    case Tokens.GIFTS:
                    case Tokens.DOUBTS:
                        readLaw(tokens.kindAt(next));
                        break;
                    default:
                        stop(SYNTAX);
                }
                take(Tokens.SEMICOLON);
            }
            return fault != NO_FAULT ? fault : laterFault;
        }

        private void readTown() {
            takeOneMore(Tokens.TOWN, draft.towns(), MOST_TOWNS);
            draft.addTown(takeNewName());
        }

        private void readRoad() {
            takeOneMore(Tokens.ROAD, draft.roads(), MOST_ROADS);
            int one = takeTown();
            int second = next;
            int other = takeTown();
            if (one == other) {
                note(TWICE, second);
            }
            draft.addRoad(one, other, takeNumber(1, 99));
        }

        private void readPerson() {
            takeOneMore(Tokens.PERSON, draft.people(), MOST_PEOPLE);
            long name = takeNewName();
            int honesty = takeNumber(0, 9);
            int home = takeTown();
            draft.addPerson(name, honesty, home, takeTown());
        }

        private void readCapital() {
            take(Tokens.CAPITAL);
            draft.setCapital(takeTown());
        }

        private void readSeed() {
            take(Tokens.SEED);
            draft.setSeed((int) tokens.valueOf(next));
            take(Tokens.INT);
        }

        private void readLaw(int kind) {
            take(kind);
            take(Tokens.EQUALS);
            draft.laws().begin(kind - Tokens.CLAIMS);
            for (int ifs = 0; ifs <= MOST_IFS && fault == NO_FAULT && tokens.kindAt(next) == Tokens.IF; ifs++) {
                if (ifs == MOST_IFS) {
                    stop(ROOM);
                } else {
                    readIf();
                }
            }
            readSum();
            draft.laws().add(Laws.ANSWER, 0);
        }

        private void readIf() {
            Laws laws = draft.laws();
            take(Tokens.IF);
            readSum();
            take(Tokens.LESS);
            readSum();
            take(Tokens.THEN);
            int skip = laws.size();
            laws.add(Laws.SKIP_UNLESS_LESS, 0);
            readSum();
            take(Tokens.ELSE);
            laws.add(Laws.ANSWER, 0);
            laws.skipToHere(skip);
        }

        /** Operators wait until what binds closer has been added; brackets wait among them. No recursion is needed then. */
        private void readSum() {
            boolean wantsUnit = true;
            int nested = 0;
            waitingCount = 0;
            for (int taken = 0; taken <= Tokens.MOST && fault == NO_FAULT; taken++) {
                int kind = tokens.kindAt(next);
                if (wantsUnit && kind == Tokens.OPEN) {
                    takeOneMore(kind, nested, MOST_NESTED);
                    putAside(kind);
                    nested++;
                } else if (wantsUnit) {
                    readUnit(kind);
                    wantsUnit = false;
                } else if (bindingOf(kind) > 0) {
                    addWaiting(bindingOf(kind));
                    take(kind);
                    putAside(kind);
                    wantsUnit = true;
                } else if (kind == Tokens.CLOSE && nested > 0) {
                    addWaiting(1);
                    take(kind);
                    waitingCount--;
                    nested--;
                } else {
                    addWaiting(1);
                    if (nested > 0) {
                        stop(SYNTAX);
                    }
                    return;
                }
            }
        }

        private void readUnit(int kind) {
            if (kind == Tokens.INT) {
                draft.laws().add(Laws.NUMBER, (int) tokens.valueOf(next));
                take(kind);
            } else if (kind >= Tokens.FIRST_VAR && kind <= Tokens.LAST_VAR) {
                draft.laws().add(Laws.VAR, kind - Tokens.FIRST_VAR);
                take(kind);
            } else {
                stop(SYNTAX);
            }
        }

        /** 0 for what is no operator, a bracket too. */
        private static int bindingOf(int kind) {
            switch (kind) {
                case Tokens.PLUS:
                case Tokens.MINUS:
                    return 1;
                case Tokens.STAR:
                case Tokens.SLASH:
                    return 2;
                default:
                    return 0;
            }
        }

        private void putAside(int kind) {
            put(waiting, waitingCount, kind);
            waitingCount++;
        }

        private void addWaiting(int leastBinding) {
            for (int i = waitingCount - 1; i >= 0 && bindingOf(at(waiting, i)) >= leastBinding; i--) {
                draft.laws().add(Laws.PLUS + (at(waiting, i) - Tokens.PLUS), 0);
                waitingCount = i;
            }
        }

        private long takeNewName() {
            long name = tokens.valueOf(next);
            if (draft.hasName(name)) {
                note(TWICE, next);
            }
            take(Tokens.NAME);
            return name;
        }

        private int takeTown() {
            int town = draft.townNamed(tokens.valueOf(next));
            if (town < 0) {
                note(NAME, next);
            }
            take(Tokens.NAME);
            return town;
        }

        private int takeNumber(int least, int most) {
            int number = (int) tokens.valueOf(next);
            if (number < least || number > most) {
                note(WRONG, next);
            }
            take(Tokens.INT);
            return number;
        }

        private void takeOneMore(int kind, int had, int most) {
            if (had >= most) {
                stop(ROOM);
            }
            take(kind);
        }

        /** Of one place the least fault counts, so that the kind is looked at ahead of the room. */
        private void take(int kind) {
            if (fault != NO_FAULT) {
                return;
            }
            if (tokens.kindAt(next) != kind) {
                stop(SYNTAX);
            } else if (next >= Tokens.MOST) {
                stop(ROOM);
            } else {
                next++;
            }
        }

        private void stop(int number) {
            if (fault == NO_FAULT) {
                fault = number;
            }
        }

        /** Counts only if the whole text has neither of the first two faults. */
        private void note(int number, int token) {
            if (laterFault == NO_FAULT) {
                laterFault = number;
                laterFaultToken = token;
            }
        }
    }

    /** What a text tells: the towns, the roads, the people as they are at first, the laws. */
    private static final class Realm {
        private final long[] townNames = new long[MOST_TOWNS];
        private final int[] oneEnds = new int[MOST_ROADS];
        private final int[] otherEnds = new int[MOST_ROADS];
        private final int[] miles = new int[MOST_ROADS];
        private final long[] personNames = new long[MOST_PEOPLE];
        private final int[] honesties = new int[MOST_PEOPLE];
        private final int[] homes = new int[MOST_PEOPLE];
        private final int[] firstPlaces = new int[MOST_PEOPLE];
        private final Laws laws = new Laws();
        private int towns;
        private int roads;
        private int people;
        private int capital;
        private int seed;

        void clear() {
            towns = 0;
            roads = 0;
            people = 0;
            capital = 0;
            seed = 0;
            laws.clear();
        }

        /** The names are left: nothing asks for them once the text has been read. */
        void copyFrom(Realm other) {
            copyAll(other.oneEnds, oneEnds);
            copyAll(other.otherEnds, otherEnds);
            copyAll(other.miles, miles);
            copyAll(other.honesties, honesties);
            copyAll(other.homes, homes);
            copyAll(other.firstPlaces, firstPlaces);
            laws.copyFrom(other.laws);
            towns = other.towns;
            roads = other.roads;
            people = other.people;
            capital = other.capital;
            seed = other.seed;
        }

        void addTown(long name) {
            putLong(townNames, towns, name);
            towns++;
        }

        void addRoad(int one, int other, int length) {
            put(oneEnds, roads, one);
            put(otherEnds, roads, other);
            put(miles, roads, length);
            roads++;
        }

        void addPerson(long name, int honesty, int home, int firstPlace) {
            putLong(personNames, people, name);
            put(honesties, people, honesty);
            put(homes, people, home);
            put(firstPlaces, people, firstPlace);
            people++;
        }

        void setCapital(int town) {
            capital = town;
        }

        void setSeed(int number) {
            seed = number;
        }

        int townNamed(long name) {
            for (int town = 0; town < towns; town++) {
                if (longAt(townNames, town) == name) {
                    return town;
                }
            }
            return NONE;
        }

        boolean hasName(long name) {
            for (int person = 0; person < people; person++) {
                if (longAt(personNames, person) == name) {
                    return true;
                }
            }
            return townNamed(name) >= 0;
        }

        int towns() {
            return towns;
        }

        int roads() {
            return roads;
        }

        int people() {
            return people;
        }

        int capital() {
            return capital;
        }

        int seed() {
            return seed;
        }

        Laws laws() {
            return laws;
        }

        boolean isTown(int town) {
            return town >= 0 && town < towns;
        }

        boolean isRoad(int road) {
            return road >= 0 && road < roads;
        }

        boolean isPerson(int person) {
            return person >= 0 && person < people;
        }

        int oneEndOf(int road) {
            return at(oneEnds, road);
        }

        int otherEndOf(int road) {
            return at(otherEnds, road);
        }

        int milesOf(int road) {
            return at(miles, road);
        }

        int honestyOf(int person) {
            return at(honesties, person);
        }

        int homeOf(int person) {
            return at(homes, person);
        }

        int firstPlaceOf(int person) {
            return at(firstPlaces, person);
        }

        /** Where the road leads from a town; NOT if it does not end there. */
        int acrossFrom(int town, int road) {
            if (!isRoad(road)) {
                return NOT;
            }
            if (oneEndOf(road) == town) {
                return otherEndOf(road);
            }
            return otherEndOf(road) == town ? oneEndOf(road) : NOT;
        }
    }

    /** The laws as steps over a stack of numbers, one law behind the other. */
    private static final class Laws {
        static final int CLAIMS = 0;
        static final int STROKES = 1;
        static final int GIFTS = 2;
        static final int DOUBTS = 3;
        private static final int KINDS = 4;

        static final int ANSWER = 0;
        static final int NUMBER = 1;
        static final int VAR = 2;
        static final int SKIP_UNLESS_LESS = 3;
        /** These four in the order of their signs' kinds. */
        static final int PLUS = 4;
        private static final int MINUS = 5;
        private static final int TIMES = 6;
        private static final int OVER = 7;

        static final int FAR = 0;
        static final int WALKED = 1;
        static final int HONEST = 2;
        static final int RUNG = 3;
        static final int DAY = 4;
        static final int WHICH = 5;
        static final int CLAIM = 6;
        static final int THERE = 7;
        static final int PURSE = 8;
        static final int VARS = 9;

        /** A token of a text makes one step at most; two more each for the laws that are not told. */
        private static final int MOST_STEPS = Tokens.MOST + 2 * KINDS;
        /** Two numbers can wait in each of seven brackets, one on the left of a <, and two are at hand. */
        private static final int MOST_WAITING = 24;

        private final int[] steps = new int[MOST_STEPS];
        private final int[] values = new int[MOST_STEPS];
        private final int[] starts = new int[KINDS];
        private final int[] stack = new int[MOST_WAITING];
        private int size;

        void clear() {
            size = 0;
            begin(CLAIMS);
            add(VAR, FAR);
            add(ANSWER, 0);
            begin(STROKES);
            add(VAR, FAR);
            add(ANSWER, 0);
            begin(GIFTS);
            add(NUMBER, 1);
            add(ANSWER, 0);
            begin(DOUBTS);
            add(NUMBER, 0);
            add(ANSWER, 0);
        }

        void copyFrom(Laws other) {
            copyAll(other.steps, steps);
            copyAll(other.values, values);
            copyAll(other.starts, starts);
            size = other.size;
        }

        int size() {
            return size;
        }

        /** What was told of that law ahead stays among the steps, but nothing leads to it. */
        void begin(int law) {
            put(starts, law, size);
        }

        void add(int step, int value) {
            put(steps, size, step);
            put(values, size, value);
            size++;
        }

        void skipToHere(int skip) {
            put(values, skip, size);
        }

        /** What a law tells; skips lead forward alone, so that no step is done twice. */
        int answer(int law, int[] vars) {
            int next = at(starts, law);
            int top = 0;
            for (int done = 0; done < MOST_STEPS; done++) {
                int step = at(steps, next);
                int value = at(values, next);
                next++;
                if (step == NUMBER || step == VAR) {
                    put(stack, top, step == NUMBER ? value : at(vars, value));
                    top++;
                } else if (step == ANSWER) {
                    return at(stack, top - 1);
                } else {
                    int right = at(stack, top - 1);
                    int left = at(stack, top - 2);
                    top -= 2;
                    if (step != SKIP_UNLESS_LESS) {
                        if (step == OVER && right == 0) {
                            return 0;
                        }
                        put(stack, top, joined(step, left, right));
                        top++;
                    } else if (left >= right) {
                        next = value;
                    }
                }
            }
            return 0;
        }

        private static int joined(int step, int left, int right) {
            switch (step) {
                case PLUS:
                    return left + right;
                case MINUS:
                    return left - right;
                case TIMES:
                    return left * right;
                case OVER:
                    return right != 0 ? left / right : 0;
                default:
                    return 0;
            }
        }

        static int mostOf(int law) {
            switch (law) {
                case GIFTS:
                    return 99;
                case DOUBTS:
                    return 100;
                default:
                    return MOST_STROKES;
            }
        }
    }

    /** All that goes on, in one row, so that it is held and undone by a copy. */
    private static final class State {
        static final int DAY = 0;
        static final int LAST_RINGER = 1;
        static final int LAST_STROKES = 2;
        static final int BARRED = 3;
        static final int CLOSED = 4;
        /** Of these there is one for each person, side by side. */
        static final int PLACE = 5;
        static final int GOAL = PLACE + MOST_PEOPLE;
        static final int WALKED = GOAL + MOST_PEOPLE;
        static final int RUNG = WALKED + MOST_PEOPLE;
        static final int PURSE = RUNG + MOST_PEOPLE;
        static final int SIZE = PURSE + MOST_PEOPLE;

        private final int[] cells = new int[SIZE];

        int get(int what) {
            return at(cells, what);
        }

        void set(int what, int value) {
            put(cells, what, value);
        }

        int of(int person, int what) {
            return at(cells, what + person);
        }

        void setOf(int person, int what, int value) {
            put(cells, what + person, value);
        }

        void begin(Realm realm) {
            for (int i = 0; i < cells.length; i++) {
                cells[i] = 0;
            }
            set(LAST_RINGER, NOT);
            for (int person = 0; person < realm.people(); person++) {
                setOf(person, PLACE, realm.firstPlaceOf(person));
                setOf(person, GOAL, NOT);
            }
        }

        void copyFrom(State other) {
            copyAll(other.cells, cells);
        }

        boolean isBarred(int person) {
            return (get(BARRED) & bit(person)) != 0;
        }

        int peopleIn(int town, int people) {
            int found = 0;
            for (int person = 0; person < people; person++) {
                if (at(cells, PLACE + person) == town) {
                    found |= bit(person);
                }
            }
            return found;
        }

        int goers(int people) {
            int found = 0;
            for (int person = 0; person < people; person++) {
                if (of(person, GOAL) >= 0) {
                    found |= bit(person);
                }
            }
            return found;
        }

        int sumOf(int what, int people) {
            int sum = 0;
            for (int person = 0; person < people; person++) {
                sum += of(person, what);
            }
            return sum;
        }
    }

    /** States that are kept, each in a place of its own. */
    private static final class Shelf {
        private final int[] cells;

        Shelf(int places) {
            cells = new int[Math.max(places, 0) * State.SIZE];
        }

        void keep(int place, State state) {
            for (int i = 0; i < State.SIZE; i++) {
                put(cells, place * State.SIZE + i, state.get(i));
            }
        }

        void take(int place, State state) {
            for (int i = 0; i < State.SIZE; i++) {
                state.set(i, at(cells, place * State.SIZE + i));
            }
        }
    }

    /** How far it is between the towns by the roads that are open. */
    private static final class Ways {
        private final Realm realm;
        private final int[] miles = new int[MOST_TOWNS * MOST_TOWNS];
        private int closed;

        Ways(Realm realm) {
            this.realm = realm;
        }

        void measure(int closedRoads) {
            closed = closedRoads;
            for (int i = 0; i < miles.length; i++) {
                miles[i] = i / MOST_TOWNS == i % MOST_TOWNS ? 0 : NO_WAY;
            }
            for (int road = 0; road < realm.roads(); road++) {
                if (isOpen(road)) {
                    shorten(realm.oneEndOf(road), realm.otherEndOf(road), realm.milesOf(road));
                    shorten(realm.otherEndOf(road), realm.oneEndOf(road), realm.milesOf(road));
                }
            }
            for (int via = 0; via < realm.towns(); via++) {
                for (int from = 0; from < realm.towns(); from++) {
                    for (int to = 0; to < realm.towns(); to++) {
                        shorten(from, to, between(from, via) + between(via, to));
                    }
                }
            }
        }

        private void shorten(int from, int to, int way) {
            if (way < between(from, to)) {
                put(miles, from * MOST_TOWNS + to, way);
            }
        }

        int between(int from, int to) {
            return realm.isTown(from) && realm.isTown(to) ? at(miles, from * MOST_TOWNS + to) : NO_WAY;
        }

        boolean isOpen(int road) {
            return realm.isRoad(road) && (closed & bit(road)) == 0;
        }

        /** The road that one walks first; NOT if none leads there. */
        int roadToward(int town, int goal) {
            int best = NOT;
            int fewest = 0;
            for (int road = 0; road < realm.roads(); road++) {
                int left = between(realm.acrossFrom(town, road), goal);
                int all = realm.milesOf(road) + left;
                if (isOpen(road) && left < NO_WAY && (best == NOT || all < fewest)) {
                    best = road;
                    fewest = all;
                }
            }
            return best;
        }
    }

    /** What can be asked of the towns and the open roads as a whole. */
    private static final class Survey {
        private static final int SETS = 1 << MOST_TOWNS;

        private final Realm realm;
        private final Ways ways;
        /** For each set of towns that a way has come to and each town where it ends: its most miles, or NOT. */
        private final int[] longest = new int[SETS * MOST_TOWNS];

        Survey(Realm realm, Ways ways) {
            this.realm = realm;
            this.ways = ways;
        }

        int openRoadsOf(int town) {
            int found = 0;
            for (int road = 0; road < realm.roads(); road++) {
                if (ways.isOpen(road) && realm.acrossFrom(town, road) >= 0) {
                    found |= bit(road);
                }
            }
            return found;
        }

        int openMiles() {
            int sum = 0;
            for (int road = 0; road < realm.roads(); road++) {
                sum += ways.isOpen(road) ? realm.milesOf(road) : 0;
            }
            return sum;
        }

        /** A longer way comes to more towns, so that its set stands behind and is reached later. */
        int longestWay(int from, int to) {
            for (int i = 0; i < longest.length; i++) {
                longest[i] = NOT;
            }
            put(longest, bit(from) * MOST_TOWNS + from, 0);
            int most = NOT;
            for (int set = 1; set < bit(realm.towns()); set++) {
                for (int town = 0; town < realm.towns(); town++) {
                    if (at(longest, set * MOST_TOWNS + town) >= 0) {
                        goOnFrom(set, town);
                    }
                }
                most = Math.max(most, at(longest, set * MOST_TOWNS + to));
            }
            return most;
        }

        private void goOnFrom(int set, int town) {
            int so = at(longest, set * MOST_TOWNS + town);
            for (int road = 0; road < realm.roads(); road++) {
                int across = realm.acrossFrom(town, road);
                if (ways.isOpen(road) && across >= 0 && (set & bit(across)) == 0) {
                    int index = (set | bit(across)) * MOST_TOWNS + across;
                    put(longest, index, Math.max(at(longest, index), so + realm.milesOf(road)));
                }
            }
        }

        /** Sets are gone through upwards, so that of as many towns the least bits are met first. */
        int clerkTowns() {
            int best = bit(realm.towns()) - 1;
            for (int set = 0; set < bit(realm.towns()); set++) {
                if (Integer.bitCount(set) < Integer.bitCount(best) && seesAllRoads(set)) {
                    best = set;
                }
            }
            return best;
        }

        private boolean seesAllRoads(int set) {
            for (int road = 0; road < realm.roads(); road++) {
                int ends = bit(realm.oneEndOf(road)) | bit(realm.otherEndOf(road));
                if (ways.isOpen(road) && (set & ends) == 0) {
                    return false;
                }
            }
            return true;
        }

        int greatestFarFrom(int town) {
            int greatest = 0;
            for (int other = 0; other < realm.towns(); other++) {
                greatest = Math.max(greatest, ways.between(town, other));
            }
            return greatest;
        }

        int centralTown() {
            int best = NOT;
            for (int town = 0; town < realm.towns(); town++) {
                if (best < 0 || greatestFarFrom(town) < greatestFarFrom(best)) {
                    best = town;
                }
            }
            return best;
        }

        int allFarTo(int town, State state) {
            int sum = 0;
            for (int person = 0; person < realm.people(); person++) {
                sum += ways.between(state.of(person, State.PLACE), town);
            }
            return sum;
        }

        int meetingTown(State state) {
            int best = NOT;
            for (int town = 0; town < realm.towns(); town++) {
                if (best < 0 || allFarTo(town, state) < allFarTo(best, state)) {
                    best = town;
                }
            }
            return best;
        }

        /** From the first town on, the shortest road that leads to a new one is always among the best. */
        int leastMilesToJoin() {
            if (realm.towns() == 0) {
                return NOT;
            }
            int joined = bit(0);
            int sum = 0;
            for (int more = 1; more < realm.towns(); more++) {
                int road = shortestOutOf(joined);
                if (road < 0) {
                    return NOT;
                }
                joined |= bit(realm.oneEndOf(road)) | bit(realm.otherEndOf(road));
                sum += realm.milesOf(road);
            }
            return sum;
        }

        private int shortestOutOf(int joined) {
            int best = NOT;
            for (int road = 0; road < realm.roads(); road++) {
                boolean isOneIn = (joined & bit(realm.oneEndOf(road))) != 0;
                boolean isOtherIn = (joined & bit(realm.otherEndOf(road))) != 0;
                if (ways.isOpen(road) && isOneIn != isOtherIn
                    && (best < 0 || realm.milesOf(road) < realm.milesOf(best))) {
                    best = road;
                }
            }
            return best;
        }
    }

    /** Asks the laws, and goes through noons. */
    private static final class Judge {
        private static final int MOST_IN_PURSE = 99999;
        private static final int LOTS = 100;
        private static final int LOT_KEY = 191;

        private final Realm realm;
        private final Ways ways;
        private final int[] vars = new int[Laws.VARS];

        Judge(Realm realm, Ways ways) {
            this.realm = realm;
            this.ways = ways;
        }

        int trueFarOf(int person) {
            return ways.between(realm.homeOf(person), realm.capital());
        }

        int lawNow(State state, int person, int law) {
            return lawFrom(state, person, realm.homeOf(person), law);
        }

        /** What a law tells of a person, were a town their home. */
        int lawFrom(State state, int person, int home, int law) {
            put(vars, Laws.FAR, ways.between(home, realm.capital()));
            put(vars, Laws.WALKED, state.of(person, State.WALKED));
            put(vars, Laws.HONEST, realm.honestyOf(person));
            put(vars, Laws.RUNG, state.of(person, State.RUNG));
            put(vars, Laws.DAY, state.get(State.DAY));
            put(vars, Laws.WHICH, person);
            put(vars, Laws.CLAIM, 0);
            put(vars, Laws.THERE, Integer.bitCount(state.peopleIn(realm.capital(), realm.people())));
            put(vars, Laws.PURSE, state.of(person, State.PURSE));
            int claim = heldTo(Laws.mostOf(Laws.CLAIMS), realm.laws().answer(Laws.CLAIMS, vars));
            if (law == Laws.CLAIMS) {
                return claim;
            }
            put(vars, Laws.CLAIM, claim);
            return heldTo(Laws.mostOf(law), realm.laws().answer(law, vars));
        }

        private static int heldTo(int most, int value) {
            return Math.max(0, Math.min(most, value));
        }

        boolean lies(State state, int person) {
            return lawFrom(state, person, realm.homeOf(person), Laws.CLAIMS) != trueFarOf(person);
        }

        int ringerOf(State state) {
            int best = NOT;
            int most = 0;
            for (int person = 0; person < realm.people(); person++) {
                if (mayRing(state, person)) {
                    int claim = lawNow(state, person, Laws.CLAIMS);
                    if (best < 0 || claim > most) {
                        best = person;
                        most = claim;
                    }
                }
            }
            return best;
        }

        int trueRingerOf(State state) {
            int best = NOT;
            for (int person = 0; person < realm.people(); person++) {
                if (mayRing(state, person) && (best < 0 || trueFarOf(person) > trueFarOf(best))) {
                    best = person;
                }
            }
            return best;
        }

        private boolean mayRing(State state, int person) {
            return state.of(person, State.PLACE) == realm.capital() && !state.isBarred(person);
        }

        int strangerOf() {
            int best = NOT;
            for (int person = 0; person < realm.people(); person++) {
                if (best < 0 || trueFarOf(person) > trueFarOf(best)) {
                    best = person;
                }
            }
            return best;
        }

        /** The laws are asked before anything of the noon is changed. */
        void goThroughNoon(State state, int seed, boolean isDoubted) {
            int ringer = ringerOf(state);
            if (ringer >= 0 && isDoubted && isFoundOut(state, ringer, seed)) {
                state.set(State.BARRED, state.get(State.BARRED) | bit(ringer));
                ringer = NOT;
            }
            if (ringer >= 0) {
                strike(state, ringer);
            } else {
                state.set(State.LAST_STROKES, 0);
            }
            state.set(State.LAST_RINGER, ringer);
            for (int person = 0; person < realm.people(); person++) {
                walk(state, person);
            }
            state.set(State.DAY, state.get(State.DAY) + 1);
        }

        private boolean isFoundOut(State state, int ringer, int seed) {
            return lies(state, ringer)
                && lot(seed, 8 * state.get(State.DAY) + ringer) < lawNow(state, ringer, Laws.DOUBTS);
        }

        private static int lot(int seed, int which) {
            int mixed = mix(mix(seed, LOT_KEY), which);
            return (mixed >>> 1) % LOTS;
        }

        private static int mix(int before, int more) {
            int mixed = (before ^ more) * 1103515245 + 12345;
            return mixed ^ (mixed >>> 15);
        }

        private void strike(State state, int ringer) {
            int strokes = lawNow(state, ringer, Laws.STROKES);
            int gifts = lawNow(state, ringer, Laws.GIFTS);
            int purse = state.of(ringer, State.PURSE);
            state.set(State.LAST_STROKES, strokes);
            state.setOf(ringer, State.RUNG, state.of(ringer, State.RUNG) + 1);
            state.setOf(ringer, State.PURSE, Math.min(MOST_IN_PURSE, purse + gifts));
        }

        private void walk(State state, int person) {
            int goal = state.of(person, State.GOAL);
            int place = state.of(person, State.PLACE);
            int road = goal < 0 ? NOT : ways.roadToward(place, goal);
            if (road < 0) {
                return;
            }
            int reached = realm.acrossFrom(place, road);
            boolean isHome = reached == realm.homeOf(person);
            state.setOf(person, State.PLACE, reached);
            state.setOf(person, State.GOAL, reached == goal ? NOT : goal);
            state.setOf(person, State.WALKED, isHome ? 0 : state.of(person, State.WALKED) + realm.milesOf(road));
        }
    }

    /** What is told of strokes that were counted, and what it leaves of the homes of a ringer. */
    private static final class Hearsay {
        private static final int MOST = 20;

        private final Realm realm;
        private final Judge judge;
        private final int[] strokes = new int[MOST];
        private final boolean[] struck = new boolean[MOST];
        private final int[] strokesFrom = new int[MOST_TOWNS];
        private int count;

        Hearsay(Realm realm, Judge judge) {
            this.realm = realm;
            this.judge = judge;
        }

        int size() {
            return count;
        }

        void clear() {
            count = 0;
        }

        int add(int v, boolean so) {
            if (v < 0 || v > MOST_STROKES || count < 0 || count >= struck.length) {
                return NONE;
            }
            put(strokes, count, v);
            struck[count] = so;
            count++;
            return count - 1;
        }

        int homesLeft(State state, int known, int person) {
            int left = 0;
            for (int town = 0; town < realm.towns(); town++) {
                int would = judge.lawFrom(state, person, town, Laws.STROKES);
                put(strokesFrom, town, would);
                if (agrees(known, would)) {
                    left |= bit(town);
                }
            }
            return left;
        }

        private boolean agrees(int known, int would) {
            for (int i = 0; i < known && i < struck.length; i++) {
                if (would >= at(strokes, i) != struck[i]) {
                    return false;
                }
            }
            return true;
        }

        /** Of homes that homesLeft() has just told; NOT if there is none. */
        int bestQuestion(int homes) {
            int best = NOT;
            int fewest = 0;
            int all = Integer.bitCount(homes);
            for (int v = 1; all > 0 && v <= MOST_STROKES; v++) {
                int so = homesStriking(homes, v);
                int worst = Math.max(so, all - so);
                if (best < 0 || worst < fewest) {
                    best = v;
                    fewest = worst;
                }
            }
            return best;
        }

        private int homesStriking(int homes, int v) {
            int found = 0;
            for (int town = 0; town < strokesFrom.length; town++) {
                if ((homes & bit(town)) != 0 && strokesFrom[town] >= v) {
                    found++;
                }
            }
            return found;
        }
    }
}
