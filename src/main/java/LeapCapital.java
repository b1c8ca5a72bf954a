import java.util.NoSuchElementException;

/**
 * A kingdom whose capital is the twenty ninth of February: realms and reigns are read from a tape,
 * people queue for the next leap day, and questions are asked of calendars, queues and guesses.
 * The numbered promises and the words in capitals are those of the project's document.
 */
public final class LeapCapital {
    public static final int NONE = -1;

    private static final int OTHERS = -2;
    private static final int MOST_SIGNS = 1000;
    private static final int MOST_PEOPLE = 6;
    private static final int MOST_LINES = 40;
    private static final int MOST_SAID = 8;
    private static final int MOST_UNDONE = 16;
    private static final int MARKS = 4;
    private static final int MOST_LAMPS = 60;
    private static final int MOST_LAMP = 20;
    private static final int MOST_DAYS = 12;
    private static final int MOST_WAITED = 99;
    private static final int LAST_YEAR = 4000;
    private static final int LAST_UNKNOWN_YEAR = 2000;
    private static final int FARTHEST_SAID = 40;
    private static final int MILLION = 1000000;

    private static final int PLAIN_KIND = 0;
    private static final int LEAP_KIND = 1;
    private static final int HEIR_KIND = 2;
    private static final int LOVER_KIND = 3;

    private final Scribe scribe = new Scribe();
    private Realm realm = new Realm();
    private Realm spareRealm = new Realm();
    private Reign reign = new Reign();
    private Reign spareReign = new Reign();
    private final Court court = new Court();
    private final Sayings sayings = new Sayings();
    private final Hearing hearing = new Hearing();
    private final Court[] past = new Court[MOST_UNDONE];
    private int undoable = 0;
    private final Mark[] marks = new Mark[MARKS];

    // Questions are tried out on these, so that no question makes an object.
    private final Court trial = new Court();
    private final int[] row = new int[MOST_PEOPLE];
    private final int[] bestRow = new int[MOST_PEOPLE];
    private long drawn = 0;

    public LeapCapital() {
        for (int i = 0; i < past.length; i++) {
            past[i] = new Court();
        }
        for (int i = 0; i < marks.length; i++) {
            marks[i] = new Mark();
        }
        court.begin(realm);
    }

    // ---- the tape ----

    public int feed(long a, long b, long c) {
        scribe.tape.addSigns(a);
        scribe.tape.addSigns(b);
        scribe.tape.addSigns(c);
        return scribe.tape.length;
    }

    public int realm() {
        int fault = scribe.readRealm(spareRealm);
        scribe.tape.empty();
        if (fault != 0) {
            return fault;
        }
        Realm told = spareRealm;
        spareRealm = realm;
        realm = told;
        court.begin(realm);
        reign.clear();
        sayings.clear();
        undoable = 0;
        for (int i = 0; i < marks.length; i++) {
            if (marks[i] != null) {
                marks[i].laid = false;
            }
        }
        return 0;
    }

    public int reign() {
        int fault = scribe.readReign(realm, spareReign);
        scribe.tape.empty();
        if (fault != 0) {
            return fault;
        }
        Reign told = spareReign;
        spareReign = reign;
        reign = told;
        return 0;
    }

    // ---- people, and what is done by hand ----

    public int person(int person, int what) {
        if (!realm.isPerson(person)) {
            return OTHERS;
        }
        switch (what) {
            case 0: return realm.kindOf(person);
            case 1: return realm.bornOf(person);
            case 2: return realm.pleaOf(person);
            case 3: return court.placeOf(person);
            case 4: return court.heard >> person & 1;
            case 5: return realm.isDead(person, court.year) ? 1 : 0;
            case 6: return court.isQueued(person) ? court.stoodOf(person) : 0;
            case 7: return court.isQueued(person) ? court.daysOf(person) : 0;
            default: return OTHERS;
        }
    }

    public int come(int person) {
        if (!court.mayEnter(realm, person)) {
            return NONE;
        }
        remember();
        court.enter(person);
        return court.placeOf(person);
    }

    public boolean leave(int person) {
        if (!court.isQueued(person)) {
            return false;
        }
        remember();
        court.goOut(person);
        return true;
    }

    public int lamp(int more) {
        if (more < 1 || more > MOST_LAMP) {
            return NONE;
        }
        remember();
        court.light(more);
        return court.lamps;
    }

    public int waits() {
        remember();
        return hearing.passYear(realm, court, false);
    }

    public int ride() {
        remember();
        return hearing.passToDay(realm, court, realm.candle);
    }

    public boolean undo() {
        if (undoable <= 0 || undoable > past.length) {
            return false;
        }
        Court before = past[undoable - 1];
        if (before == null) {
            return false;
        }
        court.copyFrom(before);
        undoable--;
        return true;
    }

    /** Keeps how it is, ahead of what is done by hand; the oldest is given up when there is no room. */
    private void remember() {
        if (undoable >= past.length) {
            Court oldest = past[0];
            for (int i = 1; i < past.length; i++) {
                past[i - 1] = past[i];
            }
            past[past.length - 1] = oldest;
            undoable = past.length - 1;
        }
        if (undoable >= 0 && past[undoable] != null) {
            past[undoable].copyFrom(court);
            undoable++;
        }
    }

    public int judged(int what) {
        if (what < 0 || what > 2) {
            return OTHERS;
        }
        int firstLeftOut = NONE;
        int firstHeard = NONE;
        trial.begin(realm);
        for (int line = 0; line < reign.size; line++) {
            boolean can = follow(reign.actOf(line), reign.partOf(line));
            if (!can && firstLeftOut == NONE) {
                firstLeftOut = line;
            }
            if (trial.heard != 0 && firstHeard == NONE) {
                firstHeard = line;
            }
        }
        if (what == 0) {
            return firstLeftOut;
        }
        return what == 1 ? firstHeard : Integer.bitCount(trial.heard);
    }

    /** Does a line of the REIGN on the trial court, if it can be done. */
    private boolean follow(int act, int part) {
        switch (act) {
            case Tape.COME:
                if (!trial.mayEnter(realm, part)) {
                    return false;
                }
                trial.enter(part);
                return true;
            case Tape.LEAVE:
                if (!trial.isQueued(part)) {
                    return false;
                }
                trial.goOut(part);
                return true;
            case Tape.LAMP:
                trial.light(part);
                return true;
            case Tape.WAIT:
                hearing.passYear(realm, trial, false);
                return true;
            default:
                hearing.passToDay(realm, trial, realm.candle);
                return true;
        }
    }

    // ---- the calendar ----

    public int leap(int year) {
        if (!Almanac.isTold(year)) {
            return NONE;
        }
        return Almanac.isLeap(year) ? 1 : 0;
    }

    public int between(int year, int other) {
        if (!Almanac.isTold(year) || !Almanac.isTold(other) || other < year) {
            return NONE;
        }
        return Almanac.leapsUpTo(other) - Almanac.leapsUpTo(year);
    }

    public int next(int year) {
        return Almanac.isTold(year) ? Almanac.leapBehind(year) : NONE;
    }

    public int weekday(int year) {
        return Almanac.isTold(year) && Almanac.isLeap(year) ? Almanac.weekdayOf(year) : NONE;
    }

    public int gate(int year, int other) {
        if (!Almanac.isTold(year) || !Almanac.isTold(other) || other < year) {
            return NONE;
        }
        int longest = 0;
        int last = 0;
        for (int y = year; y <= other; y++) {
            if (Almanac.isLeap(y)) {
                if (last > 0) {
                    longest = Math.max(longest, y - last);
                }
                last = y;
            }
        }
        return longest;
    }

    public int cycle(int year) {
        if (!Almanac.isTold(year) || !Almanac.isLeap(year)) {
            return NONE;
        }
        int weekday = Almanac.weekdayOf(year);
        for (int y = year + 1; y <= year + Almanac.CYCLE; y++) {
            if (Almanac.isLeap(y) && Almanac.weekdayOf(y) == weekday) {
                return y;
            }
        }
        return NONE;
    }

    public int lastday(int person) {
        if (!realm.isPerson(person) || realm.kindOf(person) == HEIR_KIND) {
            return NONE;
        }
        int born = realm.bornOf(person);
        for (int y = born + realm.lives - 1; y >= born; y--) {
            if (Almanac.isLeap(y)) {
                return y;
            }
        }
        return NONE;
    }

    public int old(int person) {
        if (!realm.isPerson(person)) {
            return NONE;
        }
        int leaps = Almanac.leapsUpTo(court.year) - Almanac.leapsUpTo(realm.bornOf(person));
        return Math.max(0, leaps);
    }

    // ---- what would be, if one only waits ----

    public int call(int i) {
        hearing.putInOrder(realm, court);
        return hearing.calledAt(i);
    }

    public int when(int person) {
        if (!court.isQueued(person)) {
            return NONE;
        }
        trial.copyFrom(court);
        for (int years = 1; years <= MOST_WAITED; years++) {
            hearing.passYear(realm, trial, false);
            if ((trial.heard >> person & 1) != 0) {
                return years;
            }
        }
        return NONE;
    }

    public int audience(int i) {
        return foreseeDay(i) ? hearing.heard : NONE;
    }

    public int burnt(int i) {
        return foreseeDay(i) ? hearing.burnt : NONE;
    }

    public int crowd(int i) {
        return foreseeDay(i) ? hearing.called : NONE;
    }

    /** Holds the i-th DAY from now on, on trial; false if there is no such i. */
    private boolean foreseeDay(int i) {
        if (i < 1 || i > MOST_DAYS) {
            return false;
        }
        trial.copyFrom(court);
        for (int day = 1; day <= i; day++) {
            hearing.passToDay(realm, trial, realm.candle);
        }
        return true;
    }

    public int exchange(int person, int other) {
        if (person == other || !court.isQueued(person) || !court.isQueued(other)) {
            return NONE;
        }
        trial.copyFrom(court);
        trial.changePlaces(person, other);
        return hearing.passToDay(realm, trial, realm.candle);
    }

    public int need(int person) {
        if (!court.isQueued(person)) {
            return NONE;
        }
        // A longer candle may hear somebody ahead and leave less: so each one is tried.
        for (int candle = 1; candle <= MOST_WAITED; candle++) {
            trial.copyFrom(court);
            int heard = hearing.passToDay(realm, trial, candle);
            if ((heard >> person & 1) != 0) {
                return candle;
            }
        }
        return NONE;
    }

    public int julian(int years) {
        if (years < 1 || years > MOST_WAITED) {
            return NONE;
        }
        return heardBehind(years, true) & ~heardBehind(years, false);
    }

    private int heardBehind(int years, boolean julian) {
        trial.copyFrom(court);
        for (int i = 0; i < years; i++) {
            hearing.passYear(realm, trial, julian);
        }
        return trial.heard;
    }

    public int stale() {
        int heard = heardBehind(MOST_WAITED, false);
        // Who only waits leaves the QUEUE by being HEARD or by being DEAD.
        return court.queueBits() & ~trial.queueBits() & ~heard;
    }

    public int chance(int person, int odds) {
        if (!court.isQueued(person) || odds < 0 || odds > 10) {
            return NONE;
        }
        int others = court.queueBits() & ~(1 << person);
        int chance = 0;
        for (int staying = 0; staying < 1 << MOST_PEOPLE; staying++) {
            if ((staying & ~others) != 0) {
                continue;
            }
            int weight = thinOut(others, staying, odds);
            if ((hearing.passToDay(realm, trial, realm.candle) >> person & 1) != 0) {
                chance += weight;
            }
        }
        return chance;
    }

    /** Lets the others who don't stay LEAVE, on trial: how likely that is, in millionths (exact, as five are the most). */
    private int thinOut(int others, int staying, int odds) {
        trial.copyFrom(court);
        int weight = MILLION;
        for (int person = 0; person < MOST_PEOPLE; person++) {
            if ((others >> person & 1) == 0) {
                continue;
            }
            if ((staying >> person & 1) != 0) {
                weight = weight / 10 * odds;
            } else {
                weight = weight / 10 * (10 - odds);
                trial.goOut(person);
            }
        }
        return weight;
    }

    // ---- the order of coming ----

    public int coming(int days, int what) {
        if (days < 1 || days > 4 || what < NONE) {
            return OTHERS;
        }
        int size = firstRow();
        if (what >= size) {
            return OTHERS;
        }
        int best = NONE;
        boolean more = true;
        // 720 rows of six are the most there can be.
        for (int i = 0; i < 720 && more; i++) {
            int heard = heardByRow(size, days);
            if (heard > best) {
                best = heard;
                keepRow(size);
            }
            more = best < size + court.size && nextRow(size);
        }
        if (what == NONE) {
            return best;
        }
        return what < bestRow.length ? bestRow[what] : OTHERS;
    }

    /** The row of all who can COME now, by their numbers: how many they are. */
    private int firstRow() {
        int size = 0;
        for (int person = 0; person < MOST_PEOPLE && size < row.length; person++) {
            if (court.mayEnter(realm, person)) {
                row[size] = person;
                size++;
            }
        }
        return size;
    }

    private int heardByRow(int size, int days) {
        trial.copyFrom(court);
        for (int i = 0; i < size && i < row.length; i++) {
            trial.enter(row[i]);
        }
        for (int day = 0; day < days && trial.size > 0; day++) {
            hearing.passToDay(realm, trial, realm.candle);
        }
        return Integer.bitCount(trial.heard & ~court.heard);
    }

    private void keepRow(int size) {
        for (int i = 0; i < size && i < row.length && i < bestRow.length; i++) {
            bestRow[i] = row[i];
        }
    }

    /** Makes the row that comes behind this one by numbers; false if this is the last one. */
    private boolean nextRow(int size) {
        if (size > row.length) {
            return false;
        }
        int turn = size - 2;
        while (turn >= 0 && row[turn] > row[turn + 1]) {
            turn--;
        }
        if (turn < 0) {
            return false;
        }
        int larger = size - 1;
        while (larger > turn && row[larger] < row[turn]) {
            larger--;
        }
        swapInRow(turn, larger);
        int from = turn + 1;
        for (int to = size - 1; from < to; to--) {
            swapInRow(from, to);
            from++;
        }
        return true;
    }

    private void swapInRow(int i, int j) {
        if (i < 0 || j < 0 || i >= row.length || j >= row.length) {
            return;
        }
        int kept = row[i];
        row[i] = row[j];
        row[j] = kept;
    }

    // ---- which year it was ----

    public boolean say(int years, boolean leap) {
        return sayings.add(years, leap);
    }

    public int fits(int what) {
        int many = 0;
        int first = NONE;
        int last = NONE;
        for (int year = 1; year <= LAST_UNKNOWN_YEAR; year++) {
            if (sayings.allowYear(year)) {
                many++;
                first = first == NONE ? year : first;
                last = year;
            }
        }
        switch (what) {
            case 0: return many;
            case 1: return first;
            case 2: return last;
            default: return NONE;
        }
    }

    public int ask() {
        return sayings.bestQuestion();
    }

    // ---- gates at rest, ages by draws ----

    public int rests(int lose, int goes, int stays, int what) throws NoSuchElementException {
        if (!isStake(lose) || !isStake(goes) || !isStake(stays) || what < NONE) {
            throw new NoSuchElementException();
        }
        int many = 0;
        for (int choices = 0; choices < 4; choices++) {
            int mine = choices >> 1;
            int other = choices & 1;
            boolean rest = gain(mine, other, lose, goes, stays) >= gain(1 - mine, other, lose, goes, stays)
                    && gain(other, mine, lose, goes, stays) >= gain(1 - other, mine, lose, goes, stays);
            if (rest && many == what) {
                return choices;
            }
            if (rest) {
                many++;
            }
        }
        if (what != NONE) {
            throw new NoSuchElementException();
        }
        return many;
    }

    private static boolean isStake(int stake) {
        return stake >= 0 && stake <= 9;
    }

    private static int gain(int mine, int other, int lose, int goes, int stays) {
        if (mine == 1) {
            return other == 1 ? -lose : goes;
        }
        return other == 1 ? stays : 0;
    }

    public int ages(int seed, int years, int what) {
        if (seed < 0 || seed > 9999 || years < 1 || years > MOST_WAITED || what < 0 || what > 2) {
            return NONE;
        }
        drawn = seed;
        trial.copyFrom(court);
        for (int i = 0; i < years; i++) {
            drawVisit();
            if (draw(6) == 0) {
                trial.light(draw(MOST_LAMP) + 1);
            }
            hearing.passYear(realm, trial, false);
        }
        if (what == 0) {
            return Integer.bitCount(trial.heard & ~court.heard);
        }
        return what == 1 ? trial.queueBits() : trial.year;
    }

    private void drawVisit() {
        if (realm.people <= 0) {
            return;
        }
        int person = draw(realm.people);
        if (trial.mayEnter(realm, person)) {
            trial.enter(person);
        } else if (trial.isQueued(person) && draw(8) == 0) {
            trial.goOut(person);
        }
    }

    private int draw(int below) {
        if (below < 1) {
            return 0;
        }
        drawn = (drawn * 1103515245L + 12345L) % 2147483648L;
        return (int) (drawn / 65536L % below);
    }

    // ---- marks and counts ----

    public boolean mark(int mark, boolean back) {
        if (mark < 0 || mark >= marks.length) {
            return false;
        }
        Mark held = marks[mark];
        if (held == null) {
            return false;
        }
        if (!back) {
            held.lay(court, reign, sayings);
            return true;
        }
        if (!held.laid) {
            return false;
        }
        court.copyFrom(held.court);
        reign.copyFrom(held.reign);
        sayings.copyFrom(held.sayings);
        undoable = 0;
        return true;
    }

    public int count(int what) {
        switch (what) {
            case 0: return realm.people;
            case 1: return court.year;
            case 2: return realm.candle;
            case 3: return realm.lives;
            case 4: return court.lamps;
            case 5: return court.size;
            case 6: return court.queueBits();
            case 7: return court.heard;
            case 8: return realm.deadBits(court.year);
            case 9: return reign.size;
            case 10: return sayings.size;
            case 11: return undoable;
            case 12: return scribe.tape.length;
            default: return NONE;
        }
    }

    /** LEAP years and the days of the week. */
    private static final class Almanac {
        /** Years until the calendar, with its weekdays, begins anew. */
        private static final int CYCLE = 400;
        private static final int LONGEST_GATE = 8;

        static boolean isTold(int year) {
            return year >= 1 && year <= LAST_YEAR;
        }

        static boolean isLeap(int year) {
            return year % 4 == 0 && (year % 100 != 0 || year % 400 == 0);
        }

        static boolean isJulianLeap(int year) {
            return year % 4 == 0;
        }

        static int leapsUpTo(int year) {
            return year / 4 - year / 100 + year / 400;
        }

        static int leapBehind(int year) {
            for (int i = 1; i < LONGEST_GATE; i++) {
                if (isLeap(year + i)) {
                    return year + i;
                }
            }
            return year + LONGEST_GATE;
        }

        /** Of the twenty ninth of February, 59 days behind the first of January; day 0 is a Monday. */
        static int weekdayOf(int year) {
            int days = 365 * (year - 1) + leapsUpTo(year - 1) + 59;
            return Math.floorMod(days + 1, 7);
        }
    }

    /** The law of who is HEARD first: an E, its steps in the order in which they are worked out. */
    private static final class Law {
        // A step of 0 or more is a NUMBER; those above NOT put a fact, those below it join two values.
        private static final int STOOD = -1;
        private static final int ASKS = -2;
        private static final int AGE = -3;
        private static final int DAYS = -4;
        private static final int NOT = -5;
        private static final int PLUS = -6;
        private static final int MINUS = -7;
        private static final int TIMES = -8;
        private static final int LESS = -9;
        private static final int SAME = -10;
        private static final int AND = -11;
        private static final int OR = -12;

        private final int[] steps = new int[MOST_SIGNS];
        private int size = 0;
        // Five levels of ( ) with four values left open on each need no more than 21.
        private final int[] values = new int[32];

        void clear() {
            size = 0;
        }

        void add(int step) {
            if (size >= 0 && size < steps.length) {
                steps[size] = step;
                size++;
            }
        }

        int worth(int stood, int asks, int age, int days) {
            int top = 0;
            for (int i = 0; i < size && i < steps.length; i++) {
                int step = steps[i];
                if (step > NOT) {
                    if (top >= values.length) {
                        return 0;
                    }
                    values[top] = step >= 0 ? step
                            : step == STOOD ? stood : step == ASKS ? asks : step == AGE ? age : days;
                    top++;
                } else if (step == NOT) {
                    if (top < 1) {
                        return 0;
                    }
                    values[top - 1] = values[top - 1] == 0 ? 1 : 0;
                } else {
                    if (top < 2) {
                        return 0;
                    }
                    top--;
                    values[top - 1] = joined(step, values[top - 1], values[top]);
                }
            }
            return top > 0 ? values[0] : 0;
        }

        private static int joined(int step, int a, int b) {
            switch (step) {
                case PLUS: return a + b;
                case MINUS: return a - b;
                case TIMES: return a * b;
                case LESS: return a < b ? 1 : 0;
                case SAME: return a == b ? 1 : 0;
                case AND: return a != 0 && b != 0 ? 1 : 0;
                default: return a != 0 || b != 0 ? 1 : 0;
            }
        }
    }

    /** What a REALM tells: people, the first year, candle, how long one lives, the law. */
    private static final class Realm {
        private int people = 0;
        private final long[] names = new long[MOST_PEOPLE];
        private final int[] kinds = new int[MOST_PEOPLE];
        private final int[] borns = new int[MOST_PEOPLE];
        private final int[] pleas = new int[MOST_PEOPLE];
        private int year = 1896;
        private int candle = 10;
        private int lives = 70;
        private final Law law = new Law();

        Realm() {
            law.add(Law.STOOD);
        }

        void clear() {
            people = 0;
            year = 1896;
            candle = 10;
            lives = 70;
            law.clear();
            law.add(Law.STOOD);
        }

        void addPerson(long name, int kind, int born, int plea) {
            if (people >= 0 && people < MOST_PEOPLE) {
                names[people] = name;
                kinds[people] = kind;
                borns[people] = born;
                pleas[people] = plea;
                people++;
            }
        }

        int find(long name) {
            for (int person = 0; person < people && person < names.length; person++) {
                if (names[person] == name) {
                    return person;
                }
            }
            return NONE;
        }

        boolean isPerson(int person) {
            return person >= 0 && person < people && person < MOST_PEOPLE;
        }

        int kindOf(int person) {
            return person >= 0 && person < kinds.length ? kinds[person] : PLAIN_KIND;
        }

        int bornOf(int person) {
            return person >= 0 && person < borns.length ? borns[person] : 0;
        }

        int pleaOf(int person) {
            return person >= 0 && person < pleas.length ? pleas[person] : 0;
        }

        boolean isDead(int person, int year) {
            return kindOf(person) != HEIR_KIND && year - bornOf(person) >= lives;
        }

        int deadBits(int year) {
            int bits = 0;
            for (int person = 0; person < people && person < MOST_PEOPLE; person++) {
                if (isDead(person, year)) {
                    bits |= 1 << person;
                }
            }
            return bits;
        }
    }

    /** The lines of a REIGN: what is done, and to whom or how much. */
    private static final class Reign {
        private final int[] acts = new int[MOST_LINES];
        private final int[] parts = new int[MOST_LINES];
        private int size = 0;

        void clear() {
            size = 0;
        }

        void add(int act, int part) {
            if (size >= 0 && size < MOST_LINES) {
                acts[size] = act;
                parts[size] = part;
                size++;
            }
        }

        int actOf(int line) {
            return line >= 0 && line < acts.length ? acts[line] : NONE;
        }

        int partOf(int line) {
            return line >= 0 && line < parts.length ? parts[line] : NONE;
        }

        void copyFrom(Reign other) {
            size = 0;
            for (int line = 0; line < other.size; line++) {
                add(other.actOf(line), other.partOf(line));
            }
        }
    }

    /** How it is: the year, the lamps, who is HEARD, the QUEUE in the order in which they came. */
    private static final class Court {
        private int year = 0;
        private int lamps = 0;
        private int heard = 0;
        private int size = 0;
        private final int[] queue = new int[MOST_PEOPLE];
        // By person: the year in which he came, and the DAYS since.
        private final int[] came = new int[MOST_PEOPLE];
        private final int[] days = new int[MOST_PEOPLE];

        void begin(Realm realm) {
            year = realm.year;
            lamps = 0;
            heard = 0;
            size = 0;
        }

        void copyFrom(Court other) {
            year = other.year;
            lamps = other.lamps;
            heard = other.heard;
            size = other.size;
            for (int i = 0; i < MOST_PEOPLE; i++) {
                queue[i] = other.queue[i];
                came[i] = other.came[i];
                days[i] = other.days[i];
            }
        }

        int personAt(int place) {
            return place >= 0 && place < size && place < queue.length ? queue[place] : NONE;
        }

        int placeOf(int person) {
            for (int place = 0; place < size && place < queue.length; place++) {
                if (queue[place] == person) {
                    return place;
                }
            }
            return NONE;
        }

        boolean isQueued(int person) {
            return placeOf(person) != NONE;
        }

        int queueBits() {
            int bits = 0;
            for (int place = 0; place < size && place < queue.length; place++) {
                bits |= 1 << queue[place];
            }
            return bits;
        }

        int stoodOf(int person) {
            return person >= 0 && person < came.length ? year - came[person] : 0;
        }

        int daysOf(int person) {
            return person >= 0 && person < days.length ? days[person] : 0;
        }

        boolean mayEnter(Realm realm, int person) {
            return realm.isPerson(person) && !isQueued(person) && (heard >> person & 1) == 0
                    && !realm.isDead(person, year) && realm.bornOf(person) <= year;
        }

        void enter(int person) {
            if (person >= 0 && person < MOST_PEOPLE && size >= 0 && size < MOST_PEOPLE) {
                came[person] = year;
                days[person] = 0;
                queue[size] = person;
                size++;
            }
        }

        void goOut(int person) {
            if (person >= 0 && person < MOST_PEOPLE) {
                takeOut(1 << person);
            }
        }

        void takeOut(int bits) {
            int left = 0;
            for (int place = 0; place < size && place < queue.length; place++) {
                int person = queue[place];
                if ((bits >> person & 1) == 0) {
                    queue[left] = person;
                    left++;
                }
            }
            size = left;
        }

        /** What is beyond the most there can be is lost, but the LAMP is done. */
        void light(int more) {
            lamps = Math.min(MOST_LAMPS, lamps + more);
        }

        void changePlaces(int person, int other) {
            int place = placeOf(person);
            int otherPlace = placeOf(other);
            if (place >= 0 && place < queue.length && otherPlace >= 0 && otherPlace < queue.length) {
                queue[place] = other;
                queue[otherPlace] = person;
            }
        }

        /** A DAY that was held is one of the DAYS since they came, for those who are still in the QUEUE. */
        void countDay() {
            for (int place = 0; place < size && place < queue.length; place++) {
                int person = queue[place];
                if (person >= 0 && person < days.length) {
                    days[person]++;
                }
            }
        }
    }

    /** Years that pass at a court, and the last DAY held: who was called, who was HEARD, what burnt. */
    private static final class Hearing {
        private final int[] row = new int[MOST_PEOPLE];
        private final long[] ranks = new long[MOST_PEOPLE];
        private int called = 0;
        private int heard = 0;
        private int burnt = 0;

        int passYear(Realm realm, Court court, boolean julian) {
            int year = court.year + 1;
            boolean day = julian ? Almanac.isJulianLeap(year) : Almanac.isLeap(year);
            return beginYear(realm, court, year, realm.candle, day);
        }

        /** The years up to the DAY can be left out: who is DEAD in one of them is DEAD on the DAY too. */
        int passToDay(Realm realm, Court court, int candle) {
            return beginYear(realm, court, Almanac.leapBehind(court.year), candle, true);
        }

        private int beginYear(Realm realm, Court court, int year, int candle, boolean day) {
            court.year = year;
            court.takeOut(realm.deadBits(year));
            if (!day) {
                return 0;
            }
            putInOrder(realm, court);
            hearAll(realm, candle + court.lamps);
            court.takeOut(heard);
            court.heard |= heard;
            court.lamps = 0;
            // Only now, as they are called in the order of CALL: by the DAYS ahead of this one.
            court.countDay();
            return heard;
        }

        private void hearAll(Realm realm, int candle) {
            int left = candle;
            boolean loverHeard = false;
            heard = 0;
            for (int i = 0; i < called && i < row.length; i++) {
                int person = row[i];
                boolean lover = realm.kindOf(person) == LOVER_KIND;
                int plea = realm.pleaOf(person);
                if (lover && loverHeard) {
                    plea = Math.max(1, plea / 2);
                }
                if (plea <= left) {
                    left -= plea;
                    heard |= 1 << person;
                    loverHeard = loverHeard || lover;
                }
            }
            burnt = candle - left;
        }

        void putInOrder(Realm realm, Court court) {
            called = 0;
            for (int place = 0; place < court.size && called < row.length; place++) {
                int person = court.personAt(place);
                long rank = rankOf(realm, court, person);
                int to = called;
                // Equal ones stay as they came.
                for (; to > 0 && ranks[to - 1] < rank; to--) {
                    ranks[to] = ranks[to - 1];
                    row[to] = row[to - 1];
                }
                ranks[to] = rank;
                row[to] = person;
                called++;
            }
        }

        private long rankOf(Realm realm, Court court, int person) {
            int age = court.year - realm.bornOf(person);
            long worth = realm.law.worth(court.stoodOf(person), realm.pleaOf(person), age, court.daysOf(person));
            // More than any two ints are apart: those of leap are ahead of all others.
            long ahead = realm.kindOf(person) == LEAP_KIND ? 1L << 33 : 0L;
            return ahead + worth;
        }

        int calledAt(int i) {
            return i >= 0 && i < called && i < row.length ? row[i] : NONE;
        }
    }

    /** What was SAID of an unknown year. */
    private static final class Sayings {
        private final int[] years = new int[MOST_SAID];
        private final boolean[] leaps = new boolean[MOST_SAID];
        private int size = 0;
        // By how many years behind: of the years that fit, how many are LEAP years then.
        private final int[] leapsThen = new int[FARTHEST_SAID + 1];

        void clear() {
            size = 0;
        }

        boolean add(int behind, boolean leap) {
            if (behind < 0 || behind > FARTHEST_SAID || size < 0 || size >= MOST_SAID) {
                return false;
            }
            years[size] = behind;
            leaps[size] = leap;
            size++;
            return true;
        }

        boolean allowYear(int year) {
            for (int i = 0; i < size && i < MOST_SAID; i++) {
                if (Almanac.isLeap(year + years[i]) != leaps[i]) {
                    return false;
                }
            }
            return true;
        }

        int bestQuestion() {
            int all = countLeapsThen();
            int best = NONE;
            int least = all;
            for (int behind = 0; behind < leapsThen.length; behind++) {
                int greater = Math.max(leapsThen[behind], all - leapsThen[behind]);
                if (greater < least) {
                    least = greater;
                    best = behind;
                }
            }
            return best;
        }

        private int countLeapsThen() {
            int all = 0;
            for (int behind = 0; behind < leapsThen.length; behind++) {
                leapsThen[behind] = 0;
            }
            for (int year = 1; year <= LAST_UNKNOWN_YEAR; year++) {
                if (allowYear(year)) {
                    all++;
                    for (int behind = 0; behind < leapsThen.length; behind++) {
                        leapsThen[behind] += Almanac.isLeap(year + behind) ? 1 : 0;
                    }
                }
            }
            return all;
        }

        void copyFrom(Sayings other) {
            size = other.size;
            for (int i = 0; i < MOST_SAID; i++) {
                years[i] = other.years[i];
                leaps[i] = other.leaps[i];
            }
        }
    }

    /** What a MARK holds. */
    private static final class Mark {
        private boolean laid = false;
        private final Court court = new Court();
        private final Reign reign = new Reign();
        private final Sayings sayings = new Sayings();

        void lay(Court nowCourt, Reign nowReign, Sayings nowSayings) {
            court.copyFrom(nowCourt);
            reign.copyFrom(nowReign);
            sayings.copyFrom(nowSayings);
            laid = true;
        }
    }

    /** The TAPE, and the TOKEN on it that is looked at. */
    private static final class Tape {
        /** The words of the language, each with a blank behind it; the constants below are their places. */
        private static final String WORDS = "person born plea year candle lives first come leave lamp wait ride plain leap heir lover not and or stood asks age days ";
        private static final int PERSON = 0;
        private static final int BORN = 1;
        private static final int PLEA = 2;
        private static final int YEAR = 3;
        private static final int CANDLE = 4;
        private static final int LIVES = 5;
        private static final int FIRST = 6;
        private static final int COME = 7;
        private static final int LEAVE = 8;
        private static final int LAMP = 9;
        private static final int WAIT = 10;
        private static final int RIDE = 11;
        private static final int PLAIN = 12;
        private static final int NOT = 16;
        private static final int AND = 17;
        private static final int OR = 18;
        private static final int STOOD = 19;
        private static final int DAYS = 22;

        private static final int END = 0;
        private static final int WORD = 1;
        private static final int NUMBER = 2;
        private static final int SIGN = 3;
        private static final int NO_TOKEN = 4;

        private static final int LONGEST_WORD = 8;
        private static final int LONGEST_NUMBER = 4;

        private final char[] signs = new char[MOST_SIGNS];
        private int length = 0;
        private int place = 0;
        private int behind = 0;
        private int sort = END;
        // Of a NUMBER what it is, of a sign the sign, of a WORD its place in WORDS or NONE.
        private int value = 0;
        // The letters of a WORD, five bits each.
        private long letters = 0;

        void addSigns(long eight) {
            for (int shift = 56; shift >= 0; shift -= 8) {
                int sign = (int) (eight >> shift & 255L);
                boolean stands = sign == 10 || sign >= 32 && sign <= 126;
                if (stands && length >= 0 && length < signs.length) {
                    signs[length] = (char) sign;
                    length++;
                }
            }
        }

        void empty() {
            length = 0;
        }

        void start() {
            behind = 0;
            advance();
        }

        void advance() {
            int i = behind;
            while (i < length && isBlank(signAt(i))) {
                i++;
            }
            place = i;
            char sign = signAt(i);
            if (i >= length) {
                sort = END;
            } else if (isLetter(sign)) {
                readWord();
            } else if (isDigit(sign)) {
                readNumber();
            } else {
                sort = isSign(sign) ? SIGN : NO_TOKEN;
                value = sign;
                behind = i + 1;
            }
        }

        private void readWord() {
            letters = 0;
            int i = place;
            while (i < length && isLetter(signAt(i))) {
                letters = letters * 32 + signAt(i) - 'a' + 1;
                i++;
            }
            behind = i;
            sort = i - place > LONGEST_WORD ? NO_TOKEN : WORD;
            value = placeInWords(letters);
        }

        private static int placeInWords(long wanted) {
            int number = 0;
            long word = 0;
            for (int i = 0; i < WORDS.length(); i++) {
                char sign = WORDS.charAt(i);
                if (sign != ' ') {
                    word = word * 32 + sign - 'a' + 1;
                } else if (word == wanted) {
                    return number;
                } else {
                    number++;
                    word = 0;
                }
            }
            return NONE;
        }

        private void readNumber() {
            value = 0;
            int i = place;
            while (i < length && isDigit(signAt(i))) {
                value = value * 10 + signAt(i) - '0';
                i++;
            }
            behind = i;
            sort = i - place > LONGEST_NUMBER ? NO_TOKEN : NUMBER;
        }

        private char signAt(int i) {
            return i >= 0 && i < length && i < signs.length ? signs[i] : 0;
        }

        private static boolean isBlank(char sign) {
            return sign == 10 || sign == ' ';
        }

        private static boolean isLetter(char sign) {
            return sign >= 'a' && sign <= 'z';
        }

        private static boolean isDigit(char sign) {
            return sign >= '0' && sign <= '9';
        }

        private static boolean isSign(char sign) {
            return sign == '(' || sign == ')' || sign == '<' || sign == '='
                    || sign == '+' || sign == '-' || sign == '*' || sign == ';';
        }

        boolean isWord(int word) {
            return sort == WORD && value == word;
        }

        /** The place in WORDS of the word that is looked at; NONE for all else. */
        int word() {
            return sort == WORD ? value : NONE;
        }

        boolean isSignOf(char sign) {
            return sort == SIGN && value == sign;
        }

        boolean isName() {
            return sort == WORD && (value == NONE || value > OR);
        }

        boolean isFact() {
            return sort == WORD && value >= STOOD && value <= DAYS;
        }
    }

    /** Reads the TAPE by the language; behind the first token that is wrong, all that is left to read is passed over. */
    private static final class Scribe {
        private static final int CANNOT_STAND = 1;
        private static final int UNKNOWN = 2;
        private static final int TOLD_ALREADY = 3;
        private static final int WRONG_NUMBER = 4;
        private static final int TOO_MANY = 5;
        private static final int TOO_DEEP = 5;

        private final Tape tape = new Tape();
        private int fault = 0;
        // The words that may be told once and have been, as bits by their places in WORDS.
        private int told = 0;

        int readRealm(Realm realm) {
            fault = 0;
            told = 0;
            realm.clear();
            tape.start();
            for (int i = 0; i < MOST_SIGNS && fault == 0 && tape.sort != Tape.END; i++) {
                switch (tape.word()) {
                    case Tape.PERSON:
                        readPerson(realm);
                        break;
                    case Tape.YEAR:
                        takeOnce();
                        realm.year = takeNumber(1, 3000);
                        break;
                    case Tape.CANDLE:
                        takeOnce();
                        realm.candle = takeNumber(1, 40);
                        break;
                    case Tape.LIVES:
                        takeOnce();
                        realm.lives = takeNumber(1, 120);
                        break;
                    case Tape.FIRST:
                        takeOnce();
                        realm.law.clear();
                        readWhole(realm.law, 0);
                        break;
                    default:
                        refuse(CANNOT_STAND);
                }
                takeSign(';');
            }
            return fault;
        }

        private void readPerson(Realm realm) {
            if (realm.people >= MOST_PEOPLE) {
                refuse(TOO_MANY);
            }
            takeWord(Tape.PERSON);
            if (tape.isName() && realm.find(tape.letters) != NONE) {
                refuse(TOLD_ALREADY);
            }
            long name = takeName();
            int kind = takeKind();
            takeWord(Tape.BORN);
            int born = takeNumber(1, 3000);
            takeWord(Tape.PLEA);
            int plea = takeNumber(1, 20);
            realm.addPerson(name, kind, born, plea);
        }

        int readReign(Realm realm, Reign reign) {
            fault = 0;
            reign.clear();
            tape.start();
            for (int i = 0; i < MOST_SIGNS && fault == 0 && tape.sort != Tape.END; i++) {
                readReignLine(realm, reign);
            }
            return fault;
        }

        private void readReignLine(Realm realm, Reign reign) {
            int act = tape.word();
            if (act < Tape.COME || act > Tape.RIDE) {
                refuse(CANNOT_STAND);
            }
            if (reign.size >= MOST_LINES) {
                refuse(TOO_MANY);
            }
            takeWord(act);
            int part = 0;
            if (act == Tape.COME || act == Tape.LEAVE) {
                part = realm.find(tape.letters);
                if (tape.isName() && part == NONE) {
                    refuse(UNKNOWN);
                }
                takeName();
            } else if (act == Tape.LAMP) {
                part = takeNumber(1, MOST_LAMP);
            }
            takeSign(';');
            reign.add(act, part);
        }

        /** An E; depth is how many of not and ( ) it lies within. */
        private void readWhole(Law law, int depth) {
            readTest(law, depth);
            for (int i = 0; i < MOST_SIGNS && fault == 0; i++) {
                int step = tape.isWord(Tape.AND) ? Law.AND : Law.OR;
                if (step == Law.OR && !tape.isWord(Tape.OR)) {
                    return;
                }
                tape.advance();
                readTest(law, depth);
                law.add(step);
            }
        }

        private void readTest(Law law, int depth) {
            readSum(law, depth);
            boolean less = tape.isSignOf('<');
            if (fault == 0 && (less || tape.isSignOf('='))) {
                tape.advance();
                readSum(law, depth);
                law.add(less ? Law.LESS : Law.SAME);
            }
        }

        private void readSum(Law law, int depth) {
            readProduct(law, depth);
            for (int i = 0; i < MOST_SIGNS && fault == 0; i++) {
                boolean plus = tape.isSignOf('+');
                if (!plus && !tape.isSignOf('-')) {
                    return;
                }
                tape.advance();
                readProduct(law, depth);
                law.add(plus ? Law.PLUS : Law.MINUS);
            }
        }

        private void readProduct(Law law, int depth) {
            readPart(law, depth);
            for (int i = 0; i < MOST_SIGNS && fault == 0 && tape.isSignOf('*'); i++) {
                tape.advance();
                readPart(law, depth);
                law.add(Law.TIMES);
            }
        }

        private void readPart(Law law, int depth) {
            boolean number = tape.sort == Tape.NUMBER;
            boolean open = tape.isSignOf('(');
            boolean not = tape.isWord(Tape.NOT);
            if (!number && !open && !not && !tape.isFact()) {
                refuse(CANNOT_STAND);
            } else if (depth >= TOO_DEEP) {
                refuse(TOO_MANY);
            }
            if (fault != 0) {
                return;
            }
            int value = tape.value;
            tape.advance();
            if (number) {
                law.add(value);
            } else if (open) {
                readWhole(law, depth + 1);
                takeSign(')');
            } else if (not) {
                readPart(law, depth + 1);
                law.add(Law.NOT);
            } else {
                law.add(Law.STOOD - (value - Tape.STOOD));
            }
        }

        /** Only the first fault counts. */
        private void refuse(int kind) {
            if (fault == 0) {
                fault = kind + 16 * tape.place;
            }
        }

        /** Goes on if this token may stand there and nothing was wrong yet. */
        private void take(boolean mayStand) {
            if (!mayStand) {
                refuse(CANNOT_STAND);
            }
            if (fault == 0) {
                tape.advance();
            }
        }

        private void takeWord(int word) {
            take(tape.isWord(word));
        }

        private void takeSign(char sign) {
            take(tape.isSignOf(sign));
        }

        private void takeOnce() {
            int bit = 1 << tape.value;
            if ((told & bit) != 0) {
                refuse(TOLD_ALREADY);
            }
            told |= bit;
            take(true);
        }

        private long takeName() {
            long name = tape.letters;
            take(tape.isName());
            return name;
        }

        private int takeKind() {
            int kind = tape.value - Tape.PLAIN;
            take(tape.sort == Tape.WORD && kind >= PLAIN_KIND && kind <= LOVER_KIND);
            return kind;
        }

        private int takeNumber(int least, int most) {
            int number = tape.value;
            boolean stands = tape.sort == Tape.NUMBER;
            if (stands && (number < least || number > most)) {
                refuse(WRONG_NUMBER);
            }
            take(stands);
            return number;
        }
    }
}
