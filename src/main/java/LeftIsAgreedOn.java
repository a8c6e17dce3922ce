/** An island on which left is agreed on annually. What each call answers: ../shared/DOC.md. */
public final class LeftIsAgreedOn {
    public static final int NONE = -1;

    private static final int FINE = 0;
    private static final int BAD = -2;
    private static final int OTHER = -3;
    private static final int NOTHING = -4;
    private static final int STUCK = -5;
    private static final int FULL = -6;

    private static final int PEOPLE = 8;
    private static final int KINDS = 6;
    private static final int MOST_WEIGHT = 9;
    private static final int MOST_DOUBT = 12;
    private static final int LEAST_SIDE = 3;
    private static final int MOST_SIDE = 7;
    /** Every cell's number lies below, whatever the side. */
    private static final int CELLS = 70;

    private static final int VOTER = 0;
    private static final int OLDEN = 1;
    private static final int DOUBTER = 2;
    private static final int STUBBORN = 3;
    private static final int FORDER = 4;
    private static final int DANCER = 5;
    /** By kind: the kind that it is under. */
    private static final int[] ABOVE = {NONE, VOTER, VOTER, OLDEN, DOUBTER, VOTER};

    private static final int ON = 0;
    private static final int LEFT_SIGN = 1;
    private static final int RIGHT_SIGN = 2;
    private static final int WAIT_SIGN = 3;

    private static final int MOST_SIGNS = 40;
    private static final int MOST_TIMES = 20;
    private static final int MOST_WAITS = 9;
    private static final int MOST_YEARS = 60;

    private final Island now = new Island();
    private final Island kept = new Island();
    private final Island trial = new Island();
    private final Reader reader = new Reader(trial);
    private final Shelves shelves = new Shelves();
    private final Walker one = new Walker(now);
    private final Walker two = new Walker(now);
    private final Search search = new Search(one, two);
    private final int[] outs = new int[PEOPLE];
    private final int[] refusals = new int[5];
    private boolean isKept = false;

    public LeftIsAgreedOn() {
    }

    // ---- shelves and rows

    public int row(int s, int sort, int n) {
        if (!shelves.isShelf(s) || !isWithin(sort, Shelves.BYTES, Shelves.BOOLEANS) || !isWithin(n, 0, MOST_SIGNS)) {
            return refuse(BAD);
        }
        shelves.holdRow(s, sort, n);
        return 1;
    }

    public int set(int s, int i, long v) {
        if (!shelves.isShelf(s)) {
            return refuse(BAD);
        }
        int fault = rowFault(s, s);
        if (fault != FINE) {
            return refuse(fault);
        }
        if (!isWithin(i, 0, shelves.sizeOf(s) - 1)) {
            return refuse(BAD);
        }
        shelves.store(s, i, v);
        return 1;
    }

    public int copy(int p, int q, int i, int j, int n) {
        if (!shelves.isShelf(p) || !shelves.isShelf(q)) {
            return refuse(BAD);
        }
        boolean bothHold = shelves.held(p) != NONE && shelves.held(q) != NONE;
        if (bothHold && shelves.held(p) != shelves.held(q)) {
            return refuse(OTHER);
        }
        int fault = rowFault(p, q);
        if (fault != FINE) {
            return refuse(fault);
        }
        // the size less n can't wrap, as i plus n could
        if (n < 0 || !isWithin(i, 0, shelves.sizeOf(p) - n) || !isWithin(j, 0, shelves.sizeOf(q) - n)) {
            return refuse(BAD);
        }
        shelves.move(p, q, i, j, n);
        return n;
    }

    public long element(int s, int i) {
        if (!shelves.isShelf(s) || !shelves.holdsRow(s) || !isWithin(i, 0, shelves.sizeOf(s) - 1)) {
            return 0;
        }
        return shelves.elementAt(s, i);
    }

    public int holds(int s) {
        return shelves.isShelf(s) ? shelves.held(s) : NONE;
    }

    public int show(int s, int person) {
        if (!shelves.isShelf(s) || (person != NONE && !now.isOne(person))) {
            return refuse(BAD);
        }
        if (person == NONE) {
            shelves.holdNothing(s);
        } else {
            shelves.holdOne(s, person);
        }
        return 1;
    }

    public int says(int s, int kind) {
        if (!shelves.isShelf(s) || !isKind(kind)) {
            return refuse(BAD);
        }
        if (shelves.held(s) == NONE) {
            return refuse(NOTHING);
        }
        int person = shelves.oneIn(s);
        if (!now.isOne(person) || !isUnder(now.kinds[person], kind)) {
            return refuse(OTHER);
        }
        if (kind == VOTER) {
            return now.weights[person];
        }
        one.begin(person);
        one.step(LEFT_SIGN);
        return one.faces;
    }

    // ---- the island and its people

    public int side(int n) {
        if (!now.maySide(n)) {
            return refuse(BAD);
        }
        int was = now.side;
        now.side = n;
        return was;
    }

    public int pond(int cell, boolean is) {
        if (!now.isCell(cell)) {
            return refuse(BAD);
        }
        if (is && now.hasSomebody(cell)) {
            return refuse(STUCK);
        }
        int was = asNumber(now.hasPond(cell));
        now.ponds[cell] = is;
        return was;
    }

    public int person(int kind, int a, int cell, int faces) {
        if (!isKind(kind) || !isWithin(a, 0, MOST_WEIGHT) || !now.isCell(cell) || !isFaces(faces)) {
            return refuse(BAD);
        }
        if (now.hasPond(cell)) {
            return refuse(STUCK);
        }
        if (now.isFull()) {
            return refuse(FULL);
        }
        return now.add(kind, a, cell, faces);
    }

    public int tell(int what, int v) {
        if (!isWithin(what, 0, 2) || !isWithin(v, 0, what == 2 ? MOST_DOUBT : 1)) {
            return refuse(BAD);
        }
        int was;
        if (what == 0) {
            was = now.left;
            now.left = v;
        } else if (what == 1) {
            was = now.old;
            now.old = v;
        } else {
            was = now.doubt;
            now.doubt = v;
        }
        return was;
    }

    public int isFor(int person, int v) {
        if (!now.isOne(person) || !isWithin(v, 0, 1)) {
            return refuse(BAD);
        }
        int was = now.pledges[person];
        now.pledges[person] = v;
        return was;
    }

    public int put(int person, int cell, int faces) {
        if (!now.isOne(person) || !now.isCell(cell) || !isFaces(faces)) {
            return refuse(BAD);
        }
        if (now.hasPond(cell)) {
            return refuse(STUCK);
        }
        int was = now.cells[person];
        now.cells[person] = cell;
        now.faces[person] = faces;
        return was;
    }

    public int personOf(int person, int what) {
        if (!now.isOne(person)) {
            return refuse(BAD);
        }
        switch (what) {
            case 0: return now.kinds[person];
            case 1: return now.weights[person];
            case 2: return now.cells[person];
            case 3: return now.faces[person];
            case 4: return now.pledges[person];
            case 5: return now.powerOf(person);
            default: return refuse(BAD);
        }
    }

    public int isPond(int cell) {
        if (!now.isCell(cell)) {
            return refuse(BAD);
        }
        return asNumber(now.hasPond(cell));
    }

    public int open(int cell, int faces) {
        if (!now.isCell(cell) || !isFaces(faces)) {
            return refuse(BAD);
        }
        int ahead = now.cellAhead(cell, faces);
        int count = 0;
        while (count < MOST_SIDE && ahead != NONE && !now.hasPond(ahead)) {
            count++;
            ahead = now.cellAhead(ahead, faces);
        }
        return count;
    }

    public int shore() {
        int count = 0;
        for (int cell = 0; cell < CELLS; cell++) {
            if (now.isDry(cell) && now.hasPondBeside(cell)) {
                count++;
            }
        }
        return count;
    }

    // ---- the tape

    public int feed(int letter) {
        if (!isWithin(letter, 0, 255)) {
            return refuse(BAD);
        }
        if (reader.isFull()) {
            return refuse(FULL);
        }
        return reader.append(letter);
    }

    public int wipe() {
        return reader.clear();
    }

    public int island() {
        trial.become(now);
        int answer = reader.readAll();
        reader.clear();
        if (answer < 0) {
            refuse(BAD);
        } else {
            now.become(trial);
        }
        return answer;
    }

    // ---- tellings

    public int comes(int s, int n, int person, int what) {
        int fault = tellingFault(s, n, now.isOne(person) && isWithin(what, 0, 2));
        if (fault != FINE) {
            return refuse(fault);
        }
        one.begin(person);
        follow(one, s, n);
        if (what == 0) {
            return one.cell;
        }
        return what == 1 ? one.faces : one.fellBy;
    }

    public int fell(int s, int n) {
        int fault = tellingFault(s, n, true);
        if (fault != FINE) {
            return refuse(fault);
        }
        int count = 0;
        for (int person = 0; person < now.count; person++) {
            one.begin(person);
            follow(one, s, n);
            count += asNumber(one.isFallen());
        }
        return count;
    }

    public int ponds(int s, int n, int person) {
        int fault = tellingFault(s, n, now.isOne(person));
        if (fault != FINE) {
            return refuse(fault);
        }
        int count = 0;
        for (int cell = 0; cell < CELLS; cell++) {
            if (now.isDry(cell)) {
                one.begin(person);
                one.cell = cell;
                follow(one, s, n);
                count += asNumber(one.isFallen());
            }
        }
        return count;
    }

    public int safe(int person, int cell, int what, int i) {
        if (!now.isOne(person) || !now.isCell(cell) || !isWithin(what, 0, 1) || i < NONE) {
            return refuse(BAD);
        }
        int low = what == 0 ? 0 : now.left;
        int high = what == 0 ? 1 : now.left;
        int node = search.find(person, cell, low, high);
        int signs = node == NONE ? NONE : search.signsTo(node);
        if (i == NONE) {
            return signs;
        }
        return i < signs ? search.signOf(node, signs - 1 - i) : refuse(STUCK);
    }

    public int kinds(int s, int n, int person, int cell, int what) {
        int fault = tellingFault(s, n, now.isOne(person) && now.isCell(cell) && isWithin(what, 0, 1));
        if (fault != FINE) {
            return refuse(fault);
        }
        int bits = 0;
        for (int k = 0; k < (what == 0 ? KINDS : 2); k++) {
            one.begin(person);
            if (what == 0) {
                one.kind = k;
            } else {
                one.left = k;
            }
            follow(one, s, n);
            if (one.cell == cell) {
                bits |= 1 << k;
            }
        }
        return bits;
    }

    public int who(int s, int n, int cell) {
        int fault = tellingFault(s, n, now.isCell(cell));
        if (fault != FINE) {
            return refuse(fault);
        }
        allComeOut(s, n);
        int bits = 0;
        for (int person = 0; person < now.count; person++) {
            if (outs[person] == cell) {
                bits |= 1 << person;
            }
        }
        return bits;
    }

    public int crowd(int s, int n, int what) {
        int fault = tellingFault(s, n, isWithin(what, 0, 1));
        if (fault != FINE) {
            return refuse(fault);
        }
        if (now.count == 0) {
            return refuse(STUCK);
        }
        allComeOut(s, n);
        int first = CELLS;
        int most = 0;
        for (int person = 0; person < now.count; person++) {
            int there = howManyOutIn(outs[person]);
            if (there > most || (there == most && outs[person] < first)) {
                most = there;
                first = outs[person];
            }
        }
        return what == 0 ? first : most;
    }

    public int firstFall(int s, int n) {
        int fault = tellingFault(s, n, true);
        if (fault != FINE) {
            return refuse(fault);
        }
        int first = NONE;
        for (int person = 0; person < now.count; person++) {
            one.begin(person);
            follow(one, s, n);
            if (one.isFallen() && (first == NONE || one.fellBy < first)) {
                first = one.fellBy;
            }
        }
        return first;
    }

    public int alike(int s, int n, int person) {
        int fault = tellingFault(s, n, now.isOne(person));
        if (fault != FINE) {
            return refuse(fault);
        }
        one.begin(person);
        one.left = 0;
        follow(one, s, n);
        two.begin(person);
        two.left = 1;
        follow(two, s, n);
        return asNumber(one.standsAs(two.cell, two.faces));
    }

    public int differ(int s, int n, int person, int other) {
        int fault = tellingFault(s, n, arePair(person, other));
        if (fault != FINE) {
            return refuse(fault);
        }
        one.begin(person);
        two.begin(other);
        two.cell = one.cell;
        two.faces = one.faces;
        for (int i = 0; i < n; i++) {
            one.step(shelves.signAt(s, i));
            two.step(shelves.signAt(s, i));
            if (!one.standsAs(two.cell, two.faces)) {
                return i + 1;
            }
        }
        return NONE;
    }

    public int again(int s, int n, int person, int times) {
        int fault = tellingFault(s, n, now.isOne(person) && isWithin(times, 0, MOST_TIMES));
        if (fault != FINE) {
            return refuse(fault);
        }
        one.begin(person);
        for (int time = 0; time < times; time++) {
            follow(one, s, n);
        }
        return one.cell;
    }

    public int ring(int s, int n, int person) {
        int fault = tellingFault(s, n, now.isOne(person));
        if (fault != FINE) {
            return refuse(fault);
        }
        one.begin(person);
        for (int time = 1; time <= MOST_TIMES; time++) {
            follow(one, s, n);
            if (one.standsAs(now.cells[person], now.faces[person])) {
                return time;
            }
        }
        return NONE;
    }

    public int lonely(int s, int n) {
        int fault = tellingFault(s, n, true);
        if (fault != FINE) {
            return refuse(fault);
        }
        allComeOut(s, n);
        int bits = 0;
        for (int person = 0; person < now.count; person++) {
            if (howManyOutIn(outs[person]) == 1) {
                bits |= 1 << person;
            }
        }
        return bits;
    }

    public int idle(int s, int n, int person) {
        int fault = tellingFault(s, n, now.isOne(person));
        if (fault != FINE) {
            return refuse(fault);
        }
        one.begin(person);
        int count = 0;
        for (int i = 0; i < n; i++) {
            int ahead = one.cell;
            one.step(shelves.signAt(s, i));
            count += asNumber(one.cell == ahead);
        }
        return count;
    }

    public int lefts(int person, int faces) {
        if (!now.isOne(person) || !isFaces(faces)) {
            return refuse(BAD);
        }
        one.begin(person);
        for (int told = 0; told <= MOST_TIMES; told++) {
            if (one.faces == faces) {
                return told;
            }
            one.step(LEFT_SIGN);
        }
        return NONE;
    }

    public int reach(int person, int n) {
        if (!now.isOne(person) || !isWithin(n, 0, Search.MOST_DEEP)) {
            return refuse(BAD);
        }
        return search.countReached(person, n);
    }

    // ---- votes

    public int bloc(int v) {
        if (!isWithin(v, 0, 1)) {
            return refuse(BAD);
        }
        int weight = 0;
        for (int person = 0; person < now.count; person++) {
            if (now.pledges[person] == v) {
                weight += now.weights[person];
            }
        }
        return weight;
    }

    public int swing(int person) {
        if (!now.isOne(person)) {
            return refuse(BAD);
        }
        return asNumber(now.carriedIf(1 << person) != now.carriedIf(0));
    }

    public int mightiest() {
        if (now.count == 0) {
            return refuse(STUCK);
        }
        int best = 0;
        int most = NONE;
        for (int person = 0; person < now.count; person++) {
            int power = now.powerOf(person);
            if (power > most) {
                most = power;
                best = person;
            }
        }
        return best;
    }

    public int agreed() {
        int bits = 0;
        for (int person = 0; person < now.count; person++) {
            one.begin(person);
            if (one.goesBy(LEFT_SIGN) == now.left) {
                bits |= 1 << person;
            }
        }
        return bits;
    }

    public int carries() {
        return now.carriedIf(0);
    }

    public int turn(int what) {
        if (!isWithin(what, 0, 1)) {
            return refuse(BAD);
        }
        int set = now.fewestToTurn();
        return what == 1 || set == NONE ? set : Integer.bitCount(set);
    }

    // ---- two who meet

    public int meet(int s, int n, int person, int t, int m, int other) {
        int fault = meetingFault(s, n, person, t, m, other);
        if (fault != FINE) {
            return refuse(fault);
        }
        one.begin(person);
        two.begin(other);
        return meeting(s, n, t, m, 0);
    }

    public int waits(int s, int n, int person, int t, int m, int other) {
        int fault = meetingFault(s, n, person, t, m, other);
        if (fault != FINE) {
            return refuse(fault);
        }
        for (int waited = 0; waited <= MOST_WAITS; waited++) {
            one.begin(person);
            two.begin(other);
            if (meeting(s, n, t, m, waited) == NONE) {
                return waited;
            }
        }
        return NONE;
    }

    public int judge(int s, int n) {
        if (!isTold(s, n)) {
            return refuse(BAD);
        }
        int fault = rowFault(s, s);
        if (fault == FINE && n > shelves.sizeOf(s)) {
            fault = BAD;
        }
        return fault == FINE ? shelves.firstWrong(s, n) : refuse(fault);
    }

    // ---- in truth

    public int walk(int s, int n, int person) {
        int fault = tellingFault(s, n, now.isOne(person));
        if (fault != FINE) {
            return refuse(fault);
        }
        one.begin(person);
        for (int i = 0; i < n && !one.isFallen(); i++) {
            int ahead = one.cell;
            one.step(shelves.signAt(s, i));
            if (one.isFallen()) {
                one.cell = ahead;
                now.fallen++;
            }
        }
        now.cells[person] = one.cell;
        now.faces[person] = one.faces;
        return one.cell;
    }

    public int years(int n) {
        if (!isWithin(n, 1, MOST_YEARS)) {
            return refuse(BAD);
        }
        for (int year = 0; year < n; year++) {
            now.passYear();
        }
        return now.left;
    }

    public int seed(int v) {
        int was = now.seed;
        now.seed = v;
        return was;
    }

    public int image() {
        kept.become(now);
        isKept = true;
        return 1;
    }

    public int back() {
        if (!isKept) {
            return refuse(STUCK);
        }
        now.become(kept);
        shelves.dropOnesFrom(now.count);
        return 1;
    }

    public int status(int what) {
        switch (what) {
            case 0: return now.count;
            case 1: return now.side;
            case 2: return now.left;
            case 3: return now.old;
            case 4: return now.doubt;
            case 5: return now.howManyPonds();
            case 6: return now.years;
            case 7: return now.fallen;
            case 8: return reader.size;
            case 9: return now.seed;
            case 10: return shelves.howManyHold();
            default: return isWithin(what, 12, 16) ? refusals[what - 12] : NONE;
        }
    }

    // ---- what the calls share

    private int refuse(int number) {
        if (isWithin(number, FULL, BAD)) {
            refusals[BAD - number]++;
        }
        return number;
    }

    private static boolean isWithin(int v, int least, int most) {
        return v >= least && v <= most;
    }

    private static int asNumber(boolean is) {
        return is ? 1 : 0;
    }

    private static boolean isKind(int kind) {
        return isWithin(kind, 0, KINDS - 1);
    }

    private static boolean isFaces(int faces) {
        return isWithin(faces, 0, 3);
    }

    private static boolean isUnder(int kind, int wanted) {
        int at = kind;
        for (int up = 0; up < KINDS && isKind(at); up++) {
            if (at == wanted) {
                return true;
            }
            at = ABOVE[at];
        }
        return false;
    }

    private boolean isTold(int s, int n) {
        return shelves.isShelf(s) && isWithin(n, 0, MOST_SIGNS);
    }

    private boolean arePair(int person, int other) {
        return now.isOne(person) && now.isOne(other) && person != other;
    }

    private int rowFault(int s, int t) {
        if (shelves.holdsOne(s) || shelves.holdsOne(t)) {
            return OTHER;
        }
        return shelves.held(s) == NONE || shelves.held(t) == NONE ? NOTHING : FINE;
    }

    private int tellingFault(int s, int n, boolean areOthersFine) {
        return isTold(s, n) && areOthersFine ? tellingsFault(s, n, s, 0) : BAD;
    }

    private int tellingsFault(int s, int n, int t, int m) {
        int fault = rowFault(s, t);
        if (fault != FINE) {
            return fault;
        }
        if (n > shelves.sizeOf(s) || m > shelves.sizeOf(t)) {
            return BAD;
        }
        boolean areSigns = shelves.firstWrong(s, n) == NONE && shelves.firstWrong(t, m) == NONE;
        return areSigns ? FINE : STUCK;
    }

    private int meetingFault(int s, int n, int person, int t, int m, int other) {
        if (!isTold(s, n) || !isTold(t, m) || !arePair(person, other)) {
            return BAD;
        }
        return tellingsFault(s, n, t, m);
    }

    private void follow(Walker walker, int s, int n) {
        for (int i = 0; i < n; i++) {
            walker.step(shelves.signAt(s, i));
        }
    }

    private void allComeOut(int s, int n) {
        for (int person = 0; person < now.count; person++) {
            one.begin(person);
            follow(one, s, n);
            outs[person] = one.cell;
        }
    }

    private int howManyOutIn(int cell) {
        int count = 0;
        for (int person = 0; person < now.count; person++) {
            count += asNumber(outs[person] == cell);
        }
        return count;
    }

    private int meeting(int s, int n, int t, int m, int waited) {
        if (one.cell == two.cell) {
            return 0;
        }
        int signs = Math.max(n, waited + m);
        for (int i = 0; i < signs; i++) {
            int oneWas = one.cell;
            int twoWas = two.cell;
            one.step(signOrWait(s, n, i));
            two.step(signOrWait(t, m, i - waited));
            boolean haveSwapped = one.cell == twoWas && two.cell == oneWas;
            if (one.cell == two.cell || haveSwapped) {
                return i + 1;
            }
        }
        return NONE;
    }

    private int signOrWait(int s, int n, int i) {
        return isWithin(i, 0, n - 1) ? shelves.signAt(s, i) : WAIT_SIGN;
    }

    /** All that an image keeps. */
    private static final class Island {
        private static final int[] ROW_STEPS = {-1, 0, 1, 0};
        private static final int[] COLUMN_STEPS = {0, 1, 0, -1};
        private static final int DRAW_BELOW = 12;

        private int side = 5;
        private int left = 0;
        private int old = 0;
        private int doubt = 3;
        private int years = 0;
        private int fallen = 0;
        private int seed = 1;
        private int count = 0;
        private final boolean[] ponds = new boolean[CELLS];
        private final int[] kinds = new int[PEOPLE];
        private final int[] weights = new int[PEOPLE];
        private final int[] cells = new int[PEOPLE];
        private final int[] faces = new int[PEOPLE];
        private final int[] pledges = new int[PEOPLE];

        void become(Island from) {
            side = from.side;
            left = from.left;
            old = from.old;
            doubt = from.doubt;
            years = from.years;
            fallen = from.fallen;
            seed = from.seed;
            count = from.count;
            for (int cell = 0; cell < CELLS; cell++) {
                ponds[cell] = from.ponds[cell];
            }
            for (int person = 0; person < PEOPLE; person++) {
                kinds[person] = from.kinds[person];
                weights[person] = from.weights[person];
                cells[person] = from.cells[person];
                faces[person] = from.faces[person];
                pledges[person] = from.pledges[person];
            }
        }

        boolean maySide(int n) {
            return isWithin(n, Math.max(side, LEAST_SIDE), MOST_SIDE);
        }

        boolean isCell(int cell) {
            return cell >= 0 && cell < CELLS && cell / 10 < side && cell % 10 < side;
        }

        boolean hasPond(int cell) {
            return isCell(cell) && ponds[cell];
        }

        boolean isDry(int cell) {
            return isCell(cell) && !ponds[cell];
        }

        int cellAhead(int cell, int towards) {
            int row = cell / 10 + ROW_STEPS[towards & 3];
            int column = cell % 10 + COLUMN_STEPS[towards & 3];
            boolean isThere = row >= 0 && row < side && column >= 0 && column < side;
            return isThere ? 10 * row + column : NONE;
        }

        boolean hasPondBeside(int cell) {
            for (int towards = 0; towards < 4; towards++) {
                int beside = cellAhead(cell, towards);
                if (beside != NONE && ponds[beside]) {
                    return true;
                }
            }
            return false;
        }

        int howManyPonds() {
            int many = 0;
            for (int cell = 0; cell < CELLS; cell++) {
                many += asNumber(hasPond(cell));
            }
            return many;
        }

        boolean isOne(int person) {
            return isWithin(person, 0, PEOPLE - 1) && person < count;
        }

        boolean isFull() {
            return count >= PEOPLE;
        }

        boolean hasSomebody(int cell) {
            for (int person = 0; person < count; person++) {
                if (cells[person] == cell) {
                    return true;
                }
            }
            return false;
        }

        int add(int kind, int weight, int cell, int facing) {
            if (isFull()) {
                return NONE;
            }
            int person = count;
            kinds[person] = kind;
            weights[person] = weight;
            cells[person] = cell;
            faces[person] = facing;
            pledges[person] = 0;
            count++;
            return person;
        }

        int weightOf(int set) {
            int weight = 0;
            for (int person = 0; person < count; person++) {
                if ((set >> person & 1) == 1) {
                    weight += weights[person];
                }
            }
            return weight;
        }

        int powerOf(int person) {
            int sets = 1 << count;
            int all = weightOf(sets - 1);
            int power = 0;
            for (int set = 0; set < sets; set++) {
                if ((set >> person & 1) == 0) {
                    int without = weightOf(set);
                    int with = without + weights[person];
                    power += asNumber(2 * without <= all && 2 * with > all);
                }
            }
            return power;
        }

        /** CARRIES, if all in the set were for the other one. */
        int carriedIf(int changed) {
            int lead = 0;
            for (int person = 0; person < count; person++) {
                boolean isForOne = pledges[person] != (changed >> person & 1);
                lead += isForOne ? weights[person] : -weights[person];
            }
            if (lead == 0) {
                return left;
            }
            return lead > 0 ? 1 : 0;
        }

        int fewestToTurn() {
            int wanted = 1 - carriedIf(0);
            int best = NONE;
            int fewest = PEOPLE + 1;
            for (int set = 0; set < 1 << count; set++) {
                int many = Integer.bitCount(set);
                if (many < fewest && carriedIf(set) == wanted) {
                    best = set;
                    fewest = many;
                }
            }
            return best;
        }

        void passYear() {
            int next = carriedIf(0);
            old = left;
            left = next;
            for (int person = 0; person < count; person++) {
                if (draw() < doubt) {
                    pledges[person] = 1 - pledges[person];
                }
            }
            years++;
        }

        private int draw() {
            seed = seed * 1103515245 + 12345;
            return (seed >>> 16) % DRAW_BELOW;
        }
    }

    /** One as he would walk by a telling; the island and he himself stay as they are. */
    private static final class Walker {
        private final Island island;
        private int kind = VOTER;
        private int left = 0;
        private int pledge = 0;
        private int cell = 0;
        private int faces = 0;
        private int told = 0;
        private int fellBy = NONE;
        private boolean isOddTurned = false;
        /** On, as long as there was no turn: no turn is told by it. */
        private int lastTurn = ON;
        private int lastBy = 0;

        Walker(Island island) {
            this.island = island;
        }

        void begin(int person) {
            if (!island.isOne(person)) {
                return;
            }
            kind = island.kinds[person];
            left = island.left;
            pledge = island.pledges[person];
            cell = island.cells[person];
            faces = island.faces[person];
            told = 0;
            fellBy = NONE;
            isOddTurned = false;
            lastTurn = ON;
            lastBy = 0;
        }

        boolean isFallen() {
            return fellBy != NONE;
        }

        boolean standsAs(int otherCell, int otherFaces) {
            return cell == otherCell && faces == otherFaces;
        }

        void step(int sign) {
            if (!isFallen()) {
                if (sign == ON) {
                    goOn();
                } else if (sign == LEFT_SIGN || sign == RIGHT_SIGN) {
                    goRound(sign, goesBy(sign));
                }
            }
            told++;
        }

        private void goOn() {
            int ahead = island.cellAhead(cell, faces);
            if (ahead != NONE) {
                cell = ahead;
                if (island.hasPond(ahead)) {
                    fellBy = told;
                }
            }
        }

        private void goRound(int sign, int by) {
            boolean isClockwise = (sign == LEFT_SIGN) == (by == 1);
            faces = (faces + (isClockwise ? 1 : 3)) & 3;
            isOddTurned = !isOddTurned;
            lastTurn = sign;
            lastBy = by;
        }

        int goesBy(int sign) {
            switch (kind) {
                case OLDEN: return island.old;
                case STUBBORN: return pledge;
                case DOUBTER: return isOddTurned ? 1 - left : left;
                case FORDER: return island.hasPondBeside(cell) ? 1 - left : left;
                case DANCER: return dances(sign);
                default: return left;
            }
        }

        private int dances(int sign) {
            if (lastTurn == ON) {
                return left;
            }
            return lastTurn == sign ? 1 - lastBy : lastBy;
        }

        /** All that the signs behind depend on, in one number; NONE: fallen in. */
        int state() {
            if (isFallen()) {
                return NONE;
            }
            int turned = asNumber(isOddTurned) | lastBy << 1 | lastTurn << 2;
            return cell | faces << 7 | turned << 9;
        }

        /** Only from where he hasn't fallen in. */
        void resume(int state) {
            cell = state & 127;
            faces = state >> 7 & 3;
            isOddTurned = (state >> 9 & 1) == 1;
            lastBy = state >> 10 & 1;
            lastTurn = state >> 11 & 3;
            fellBy = NONE;
        }

        static int cellOf(int state) {
            return state == NONE ? NONE : state & 127;
        }
    }

    /**
     * All tellings of ons, lefts and rights, 6 signs at most, as a tree: behind node k come
     * 3k + 1 (on), 3k + 2 (left), 3k + 3 (right). So shorter ones come ahead of longer ones, and
     * those of one length by rows; each node needs but one step from its parent.
     */
    private static final class Search {
        static final int MOST_DEEP = 6;
        private static final int[] NODES = {1, 4, 13, 40, 121, 364, 1093};

        private final Walker one;
        private final Walker two;
        private final int[] oneStates = new int[1093];
        private final int[] twoStates = new int[1093];
        private final boolean[] isReached = new boolean[CELLS];

        Search(Walker one, Walker two) {
            this.one = one;
            this.two = two;
        }

        int find(int person, int cell, int oneLeft, int twoLeft) {
            one.begin(person);
            one.left = oneLeft;
            two.begin(person);
            two.left = twoLeft;
            for (int node = 0; node < twoStates.length; node++) {
                grow(one, oneStates, node);
                grow(two, twoStates, node);
                if (Walker.cellOf(oneStates[node]) == cell && Walker.cellOf(twoStates[node]) == cell) {
                    return node;
                }
            }
            return NONE;
        }

        int countReached(int person, int deep) {
            for (int cell = 0; cell < CELLS; cell++) {
                isReached[cell] = false;
            }
            one.begin(person);
            int nodes = isWithin(deep, 0, MOST_DEEP) ? NODES[deep] : 0;
            int count = 0;
            for (int node = 0; node < nodes; node++) {
                grow(one, oneStates, node);
                int cell = Walker.cellOf(oneStates[node]);
                if (isWithin(cell, 0, CELLS - 1) && !isReached[cell]) {
                    isReached[cell] = true;
                    count++;
                }
            }
            return count;
        }

        private static void grow(Walker walker, int[] states, int node) {
            if (node == 0) {
                states[0] = walker.state();
                return;
            }
            int from = states[(node - 1) / 3];
            if (from == NONE) {
                states[node] = NONE;
                return;
            }
            walker.resume(from);
            walker.step((node - 1) % 3);
            states[node] = walker.state();
        }

        int signsTo(int node) {
            int signs = 0;
            while (signs < MOST_DEEP && node >= NODES[signs]) {
                signs++;
            }
            return signs;
        }

        /** The sign that stands as many places ahead of the last one. */
        int signOf(int node, int ahead) {
            int at = node;
            for (int up = 0; up < ahead && at > 0; up++) {
                at = (at - 1) / 3;
            }
            return at > 0 ? (at - 1) % 3 : ON;
        }
    }

    /** What the shelves hold; the elements of all rows lie in one array, made once. */
    private static final class Shelves {
        static final int BYTES = 0;
        static final int SHORTS = 1;
        static final int INTS = 2;
        static final int BOOLEANS = 4;
        private static final int SHELVES = 8;
        private static final int FIRST_ONE = 10;

        private final int[] contents = {NONE, NONE, NONE, NONE, NONE, NONE, NONE, NONE};
        private final int[] sizes = new int[SHELVES];
        private final long[] elements = new long[SHELVES * MOST_SIGNS];

        boolean isShelf(int s) {
            return isWithin(s, 0, SHELVES - 1);
        }

        int held(int s) {
            return contents[s];
        }

        boolean holdsOne(int s) {
            return contents[s] >= FIRST_ONE;
        }

        boolean holdsRow(int s) {
            return isWithin(contents[s], BYTES, BOOLEANS);
        }

        int oneIn(int s) {
            return holdsOne(s) ? contents[s] - FIRST_ONE : NONE;
        }

        int sizeOf(int s) {
            return sizes[s];
        }

        void holdNothing(int s) {
            contents[s] = NONE;
            sizes[s] = 0;
        }

        void holdOne(int s, int person) {
            contents[s] = FIRST_ONE + person;
            sizes[s] = 0;
        }

        void holdRow(int s, int sort, int n) {
            contents[s] = sort;
            sizes[s] = n;
            for (int i = 0; i < n; i++) {
                elements[s * MOST_SIGNS + i] = 0;
            }
        }

        void store(int s, int i, long v) {
            elements[s * MOST_SIGNS + i] = asSort(contents[s], v);
        }

        private static long asSort(int sort, long v) {
            switch (sort) {
                case BYTES: return (byte) v;
                case SHORTS: return (short) v;
                case INTS: return (int) v;
                case BOOLEANS: return v != 0 ? 1 : 0;
                default: return v;
            }
        }

        long elementAt(int s, int i) {
            return elements[s * MOST_SIGNS + i];
        }

        int signAt(int s, int i) {
            return (int) elements[s * MOST_SIGNS + i];
        }

        void move(int p, int q, int i, int j, int n) {
            System.arraycopy(elements, p * MOST_SIGNS + i, elements, q * MOST_SIGNS + j, n);
        }

        int firstWrong(int s, int n) {
            for (int i = 0; i < n; i++) {
                long sign = elementAt(s, i);
                if (sign < ON || sign > WAIT_SIGN) {
                    return i;
                }
            }
            return NONE;
        }

        void dropOnesFrom(int count) {
            for (int s = 0; s < SHELVES; s++) {
                if (oneIn(s) >= count) {
                    holdNothing(s);
                }
            }
        }

        int howManyHold() {
            int many = 0;
            for (int s = 0; s < SHELVES; s++) {
                many += asNumber(contents[s] != NONE);
            }
            return many;
        }
    }

    /** The tape, and how an island is read from it onto a trial island. */
    private static final class Reader {
        private static final int MOST_BYTES = 250;
        private static final int FIRST_FAULT = -20;
        private static final int TOO_LONG = 100;

        private static final int END = 0;
        private static final int WORD = 1;
        private static final int NUMBER = 2;
        private static final int BETWEEN = 3;
        private static final int STRANGE = 4;

        private final Island trial;
        private final int[] bytes = new int[MOST_BYTES];
        private int size = 0;
        private int at = 0;
        private int token = END;
        private int tokenAt = 0;
        private int value = 0;

        Reader(Island trial) {
            this.trial = trial;
        }

        boolean isFull() {
            return size >= MOST_BYTES;
        }

        int append(int letter) {
            if (!isFull()) {
                bytes[size] = letter;
                size++;
            }
            return size;
        }

        int clear() {
            int was = size;
            size = 0;
            return was;
        }

        /** How many statements; below 0: -20 less the fault, which is where the last token began. */
        int readAll() {
            at = 0;
            for (int statements = 1; statements <= MOST_BYTES; statements++) {
                if (!readStatement()) {
                    break;
                }
                nextToken();
                if (token == END) {
                    return statements;
                }
                if (token != BETWEEN) {
                    break;
                }
            }
            return FIRST_FAULT - tokenAt;
        }

        private boolean readStatement() {
            nextToken();
            if (token != WORD) {
                return false;
            }
            if (isWord("side")) {
                return readSide();
            }
            if (isWord("pond")) {
                return readPond();
            }
            if (isWord("dry")) {
                return readDry();
            }
            if (isWord("person")) {
                return readPerson();
            }
            if (isWord("is")) {
                return readIs();
            }
            return readYear();
        }

        private boolean readSide() {
            if (!readNumber(LEAST_SIDE, MOST_SIDE) || !trial.maySide(value)) {
                return false;
            }
            trial.side = value;
            return true;
        }

        private boolean readPond() {
            if (!readCell() || trial.hasSomebody(value)) {
                return false;
            }
            trial.ponds[value] = true;
            return true;
        }

        private boolean readDry() {
            if (!readCell()) {
                return false;
            }
            trial.ponds[value] = false;
            return true;
        }

        private boolean readPerson() {
            // the word itself is the fault: no token behind it is looked at
            if (trial.isFull() || !readNumber(0, KINDS - 1)) {
                return false;
            }
            int kind = value;
            if (!readNumber(0, MOST_WEIGHT)) {
                return false;
            }
            int weight = value;
            if (!readCell() || trial.hasPond(value)) {
                return false;
            }
            int cell = value;
            if (!readNumber(0, 3)) {
                return false;
            }
            trial.add(kind, weight, cell, value);
            return true;
        }

        private boolean readIs() {
            if (!readNumber(0, PEOPLE - 1) || !trial.isOne(value)) {
                return false;
            }
            int person = value;
            if (!readNumber(0, 1)) {
                return false;
            }
            trial.pledges[person] = value;
            return true;
        }

        private boolean readYear() {
            if (isWord("left")) {
                if (!readNumber(0, 1)) {
                    return false;
                }
                trial.left = value;
                return true;
            }
            if (isWord("old")) {
                if (!readNumber(0, 1)) {
                    return false;
                }
                trial.old = value;
                return true;
            }
            if (!isWord("doubt") || !readNumber(0, MOST_DOUBT)) {
                return false;
            }
            trial.doubt = value;
            return true;
        }

        private boolean readNumber(int least, int most) {
            nextToken();
            return token == NUMBER && isWithin(value, least, most);
        }

        private boolean readCell() {
            nextToken();
            return token == NUMBER && trial.isCell(value);
        }

        private void nextToken() {
            while (at < size && bytes[at] == ' ') {
                at++;
            }
            tokenAt = at;
            if (at >= size) {
                token = END;
            } else if (isWithin(bytes[at], 'a', 'z')) {
                token = WORD;
                passAll('a', 'z');
            } else if (isWithin(bytes[at], '0', '9')) {
                token = NUMBER;
                passAll('0', '9');
                value = numberPassed();
            } else {
                token = bytes[at] == ';' ? BETWEEN : STRANGE;
                at++;
            }
        }

        private void passAll(int least, int most) {
            while (at < size && bytes[at] >= least && bytes[at] <= most) {
                at++;
            }
        }

        private int numberPassed() {
            if (at - tokenAt > 2) {
                return TOO_LONG;
            }
            int number = 0;
            for (int i = tokenAt; i < at; i++) {
                number = 10 * number + bytes[i] - '0';
            }
            return number;
        }

        private boolean isWord(String word) {
            if (at - tokenAt != word.length()) {
                return false;
            }
            for (int i = 0; i < word.length(); i++) {
                if (bytes[tokenAt + i] != word.charAt(i)) {
                    return false;
                }
            }
            return true;
        }
    }
}
