import java.util.Arrays;
import java.util.NoSuchElementException;

/** A salt flat of bell towers, and the walkers who go by what they hear. */
public final class SaltBells {
    public static final int NONE = -1;

    private static final int TAPE_LIMIT = 500;
    private static final int FED_AT_ONCE = 20;
    private static final int MAX_TOWERS = 5;
    private static final int MAX_WALKERS = 4;
    private static final int MAX_CELLS = 100;
    private static final int MAX_STROKES_AT_ONCE = 200;
    private static final int MAX_NIGHT_STROKES = 100;
    private static final int MAX_PLAN = 4;
    private static final int SPENT = -2;

    private final byte[] tape = new byte[TAPE_LIMIT];
    private final Reader reader = new Reader();
    private final Ground ground = new Ground();
    private final Ground told = new Ground();
    private final Ears ears = new Ears();
    private final Feet feet = new Feet();
    private final Teller teller = new Teller(reader, told);
    private final OrderBook book = new OrderBook(reader);
    private final Course course = new Course(ground, ears, feet);
    private final Course kept = new Course(ground, ears, feet);
    private final Quest quest = new Quest(ground, ears, feet);
    private final Planner planner = new Planner(ground, ears, feet);
    private final Folk dream = new Folk(ground, ears, feet);
    private final int[] bestRow = new int[MAX_PLAN];
    private int bestLength;
    private int taped;
    private int faultPlace = NONE;
    private boolean imaged;

    public SaltBells() {
        ground.clear();
        beginOnGround();
    }

    private void beginOnGround() {
        ears.listen(ground);
        feet.learn(ground);
        course.begin();
        quest.open = false;
        bestLength = 0;
        imaged = false;
    }

    public int feed(int a, int b, int c, int d, int e) {
        if (taped + FED_AT_ONCE > TAPE_LIMIT) {
            return NONE;
        }
        append(a);
        append(b);
        append(c);
        append(d);
        append(e);
        return taped;
    }

    private void append(int four) {
        for (int shift = 24; shift >= 0 && taped < TAPE_LIMIT; shift -= 8) {
            tape[taped] = (byte) (four >> shift);
            taped++;
        }
    }

    public int flat(int n) throws IllegalArgumentException {
        openTape(n);
        boolean good = teller.tell();
        faultPlace = reader.place;
        if (!good) {
            course.refusedTexts++;
            return reader.fault;
        }
        ground.take(told);
        beginOnGround();
        return 0;
    }

    private void openTape(int n) {
        if (n < 0 || n > taped) {
            throw new IllegalArgumentException("the tape has not so many bytes");
        }
        reader.open(tape, n);
        taped = 0;
    }

    public int orders(int n) throws IllegalArgumentException {
        openTape(n);
        boolean good = book.read(ground.towers);
        faultPlace = reader.place;
        if (!good) {
            course.refusedTexts++;
            return NONE - reader.fault;
        }
        for (int i = 0; i < book.many; i++) {
            if (strike(book.sets[i]) == NONE) {
                return i;
            }
        }
        return book.many;
    }

    public int fault() {
        return faultPlace;
    }

    public int count(int what) throws NoSuchElementException {
        switch (what) {
            case 0: return ground.width;
            case 1: return ground.height;
            case 2: return ground.towers;
            case 3: return ground.walkers;
            case 4: return ground.wind;
            case 5: return ground.strength;
            case 6: return ground.dark;
            case 7: return course.done;
            case 8: return course.undone;
            case 9: return course.folk.howMany(Folk.IN);
            case 10: return course.folk.howMany(Folk.TAKEN);
            case 11: return course.folk.howMany(Folk.FALLEN);
            case 12: return taped;
            case 13: return course.refusedTexts;
            case 14: return course.refusedStrokes;
            default: throw new NoSuchElementException("no such count");
        }
    }

    public int tower(int tower, int what) throws NoSuchElementException {
        needTower(tower);
        switch (what) {
            case 0: return ground.towerCell[tower];
            case 1: return ground.range[tower];
            case 2: return ground.voice[tower];
            case 3: return course.folk.strokesLeft(tower);
            case 4: return ground.isFalse[tower] ? 1 : 0;
            default: throw new NoSuchElementException("a tower has no such thing");
        }
    }

    private void needTower(int tower) {
        if (tower < 0 || tower >= ground.towers) {
            throw new NoSuchElementException("no such tower");
        }
    }

    private void needWalker(int walker) {
        if (walker < 0 || walker >= ground.walkers) {
            throw new NoSuchElementException("no such walker");
        }
    }

    private void needCell(int cell) {
        if (cell < 0 || cell >= ground.cells()) {
            throw new NoSuchElementException("no such cell");
        }
    }

    private void needPart(int what) {
        if (what != 0 && what != 1) {
            throw new NoSuchElementException("there are parts 0 and 1 alone");
        }
    }

    private void needLength(int n) {
        if (n < 1 || n > MAX_PLAN) {
            throw new IllegalArgumentException("1 to 4 strokes");
        }
    }

    public int walker(int walker, int what) throws NoSuchElementException {
        needWalker(walker);
        switch (what) {
            case 0: return ground.kind[walker];
            case 1: return course.folk.of(walker, Folk.CELL);
            case 2: return course.folk.of(walker, Folk.WATER);
            case 3: return course.folk.of(walker, Folk.HEADING);
            case 4: return course.folk.of(walker, Folk.HOW);
            case 5: return course.folk.of(walker, Folk.FOLLOWED);
            case 6: return course.folk.of(walker, Folk.TURNS);
            default: throw new NoSuchElementException("a walker has no such thing");
        }
    }

    public int far(int tower, int cell) throws NoSuchElementException {
        needTower(tower);
        needCell(cell);
        return ground.distance(tower, cell);
    }

    public int heard(int cell) throws NoSuchElementException {
        needCell(cell);
        return ears.heardAt[cell];
    }

    public int stroke(int set) {
        return strike(set);
    }

    private int strike(int set) {
        if (!course.folk.canRing(set)) {
            course.refusedStrokes++;
            return NONE;
        }
        int cameIn = course.strikeNew(set);
        quest.goOn(set);
        return cameIn;
    }

    public int ring(int set, int many) throws IllegalArgumentException {
        if (many < 0 || many > MAX_STROKES_AT_ONCE) {
            throw new IllegalArgumentException("0 to 200 strokes");
        }
        for (int i = 0; i < many; i++) {
            if (strike(set) == NONE) {
                return i;
            }
        }
        return many;
    }

    public boolean undo() {
        if (course.done == 0) {
            return false;
        }
        course.takeBack();
        return true;
    }

    public boolean redo() {
        if (course.undone == 0) {
            return false;
        }
        quest.goOn(course.strikeAgain());
        return true;
    }

    public int why(int walker, int i) throws NoSuchElementException {
        needWalker(walker);
        if (i < 0 || i >= course.done) {
            throw new NoSuchElementException("no such stroke can be undone");
        }
        return course.reason(walker, i);
    }

    public int search() {
        quest.begin();
        return quest.left;
    }

    public int seen(int line, boolean row, boolean not) throws NoSuchElementException {
        if (line < 0 || line >= (row ? ground.height : ground.width)) {
            throw new NoSuchElementException("no such line");
        }
        if (!quest.open) {
            return NONE;
        }
        quest.keepThose(line, row, not);
        return quest.left;
    }

    public int cases(int cell) throws NoSuchElementException {
        if (cell != NONE) {
            needCell(cell);
        }
        if (!quest.open) {
            return NONE;
        }
        return cell == NONE ? quest.left : quest.howManyIn(cell);
    }

    public int odds(int cell, int what) throws NoSuchElementException {
        needCell(cell);
        needPart(what);
        if (!quest.open) {
            return NONE;
        }
        int upper = quest.howManyIn(cell);
        if (upper == 0) {
            return what;
        }
        int common = commonDivisor(quest.left, upper);
        if (common < 1) {
            return NONE;
        }
        return (what == 0 ? upper : quest.left) / common;
    }

    private static int commonDivisor(int a, int b) {
        int high = a;
        int low = b;
        for (int i = 0; i < MAX_CELLS && low > 0; i++) {
            int rest = high % low;
            high = low;
            low = rest;
        }
        return high;
    }

    public int best(int n) throws IllegalArgumentException {
        needLength(n);
        if (planner.isSpent(course.folk, n)) {
            return SPENT;
        }
        int more = planner.mostMore(course.folk, n, NONE);
        System.arraycopy(planner.found, 0, bestRow, 0, n);
        bestLength = n;
        return more;
    }

    public int plan(int i) throws NoSuchElementException {
        if (i < 0 || i >= bestLength) {
            throw new NoSuchElementException("no such stroke is kept");
        }
        return bestRow[i];
    }

    public int worth(int tower, int n) throws NoSuchElementException, IllegalArgumentException {
        needTower(tower);
        needLength(n);
        if (planner.isSpent(course.folk, n)) {
            return SPENT;
        }
        int with = planner.mostMore(course.folk, n, NONE);
        return with - planner.mostMore(course.folk, n, tower);
    }

    public int forever(int walker, int set, int what) throws NoSuchElementException {
        needWalker(walker);
        needPart(what);
        if (!ground.hasTowers(set) || course.folk.of(walker, Folk.HOW) != Folk.OUT) {
            return NONE;
        }
        dream.take(course.folk);
        return dream.endOf(walker, set, what);
    }

    public int night(int seed, int strokes) throws IllegalArgumentException {
        if (strokes < 0 || strokes > MAX_NIGHT_STROKES) {
            throw new IllegalArgumentException("0 to 100 strokes");
        }
        int grown = seed;
        int cameIn = 0;
        for (int i = 0; i < strokes; i++) {
            int set = 0;
            for (int t = 0; t < ground.towers; t++) {
                grown = grown * 1103515245 + 12345;
                // A draw of 2 of bits 16 to 30 is the lowest of them.
                if ((grown >>> 16 & 1) == 1 && course.folk.strokesLeft(t) > 0) {
                    set |= 1 << t;
                }
            }
            cameIn += strike(set);
        }
        return cameIn;
    }

    public void image() {
        kept.take(course);
        imaged = true;
    }

    public boolean restore() {
        if (!imaged) {
            return false;
        }
        course.take(kept);
        return true;
    }

    /** The tokens of a text, one at a time, and the first fault that was found in it. */
    private static final class Reader {
        static final int END = 0;
        static final int WORD = 1;
        static final int NUMBER = 2;
        static final int SIGN = 3;
        static final int OTHER = 4;

        static final int MISPLACED = 1;
        static final int TOO_MUCH = 2;
        static final int LATE_FLAT = 3;
        static final int TWICE = 4;

        private static final int MOST_DIGITS = 3;

        private byte[] text = new byte[0];
        private int end;
        private int at;
        private int value;
        private int length;
        private int start;
        private int startBefore;
        int kind;
        int fault;
        int place;

        void open(byte[] bytes, int n) {
            text = bytes;
            end = Math.min(n, bytes.length);
            at = 0;
            start = 0;
            fault = 0;
            place = NONE;
            advance();
        }

        void advance() {
            startBefore = start;
            while (at < end && (text[at] == ' ' || text[at] == '\n')) {
                at++;
            }
            start = at;
            value = 0;
            if (at >= end) {
                kind = END;
            } else if (text[at] >= 'a' && text[at] <= 'z') {
                kind = WORD;
                while (at < end && text[at] >= 'a' && text[at] <= 'z') {
                    at++;
                }
            } else if (text[at] >= '0' && text[at] <= '9') {
                kind = NUMBER;
                while (at < end && text[at] >= '0' && text[at] <= '9') {
                    value = value * 10 + text[at] - '0';
                    at++;
                }
            } else {
                kind = text[at] == ';' || text[at] == '{' || text[at] == '}' ? SIGN : OTHER;
                at++;
            }
            length = at - start;
        }

        boolean isWord(String word) {
            if (kind != WORD || length != word.length()) {
                return false;
            }
            for (int i = 0; i < length; i++) {
                if (text[start + i] != word.charAt(i)) {
                    return false;
                }
            }
            return true;
        }

        boolean isSign(char sign) {
            return kind == SIGN && text[start] == sign;
        }

        /** Goes behind a number from low to high; NONE, and a fault, if none stands here. */
        int number(int low, int high) {
            if (kind != NUMBER) {
                refuse(MISPLACED);
                return NONE;
            }
            if (length > MOST_DIGITS || value < low || value > high) {
                refuse(TOO_MUCH);
                return NONE;
            }
            int read = value;
            advance();
            return read;
        }

        boolean passSign(char sign) {
            if (!isSign(sign)) {
                return refuse(MISPLACED);
            }
            advance();
            return true;
        }

        /** A fault of the token that stands here; false, for the caller to hand on. */
        boolean refuse(int which) {
            fault = which;
            place = start;
            return false;
        }

        /** A fault of the token just passed. */
        boolean refuseBefore(int which) {
            fault = which;
            place = startBefore;
            return false;
        }
    }

    /** What a text tells of a flat. */
    private static final class Ground {
        static final int NORTH = 0;
        static final int EAST = 1;
        static final int SOUTH = 2;
        static final int WEST = 3;

        private static final int USUAL_SIDE = 6;
        private static final int FAR_OF_A_STEP = 4;

        int width;
        int height;
        int towers;
        int walkers;
        int wind;
        int strength;
        int dark;
        final int[] towerCell = new int[MAX_TOWERS];
        final int[] range = new int[MAX_TOWERS];
        final int[] voice = new int[MAX_TOWERS];
        final int[] strokes = new int[MAX_TOWERS];
        final boolean[] isFalse = new boolean[MAX_TOWERS];
        final int[] kind = new int[MAX_WALKERS];
        final int[] home = new int[MAX_WALKERS];
        final int[] water = new int[MAX_WALKERS];
        final boolean[] mirage = new boolean[MAX_CELLS];

        void clear() {
            width = USUAL_SIDE;
            height = USUAL_SIDE;
            towers = 0;
            walkers = 0;
            wind = NORTH;
            strength = 0;
            dark = 0;
            for (int cell = 0; cell < MAX_CELLS; cell++) {
                mirage[cell] = false;
            }
        }

        void take(Ground other) {
            width = other.width;
            height = other.height;
            towers = other.towers;
            walkers = other.walkers;
            wind = other.wind;
            strength = other.strength;
            dark = other.dark;
            for (int t = 0; t < MAX_TOWERS; t++) {
                towerCell[t] = other.towerCell[t];
                range[t] = other.range[t];
                voice[t] = other.voice[t];
                strokes[t] = other.strokes[t];
                isFalse[t] = other.isFalse[t];
            }
            for (int w = 0; w < MAX_WALKERS; w++) {
                kind[w] = other.kind[w];
                home[w] = other.home[w];
                water[w] = other.water[w];
            }
            for (int cell = 0; cell < MAX_CELLS; cell++) {
                mirage[cell] = other.mirage[cell];
            }
        }

        int cells() {
            return width * height;
        }

        int xOf(int cell) {
            return width > 0 ? cell % width : 0;
        }

        int yOf(int cell) {
            return width > 0 ? cell / width : 0;
        }

        boolean hasTowers(int set) {
            return set >>> towers == 0;
        }

        boolean hasTowerAt(int cell) {
            for (int t = 0; t < towers; t++) {
                if (towerCell[t] == cell) {
                    return true;
                }
            }
            return false;
        }

        int distance(int tower, int cell) {
            int east = xOf(cell) - xOf(towerCell[tower]);
            int south = yOf(cell) - yOf(towerCell[tower]);
            int along;
            switch (wind) {
                case NORTH: along = -south; break;
                case EAST: along = east; break;
                case SOUTH: along = south; break;
                default: along = -east; break;
            }
            return FAR_OF_A_STEP * (Math.abs(east) + Math.abs(south)) - strength * along;
        }

        boolean carries(int tower, int cell) {
            return distance(tower, cell) <= FAR_OF_A_STEP * (range[tower] + dark);
        }
    }

    /** Reads a flat from its text. */
    private static final class Teller {
        private static final int USUAL_STROKES = 99;

        private final Reader reader;
        private final Ground ground;
        private boolean windTold;
        private boolean nightTold;

        Teller(Reader reader, Ground ground) {
            this.reader = reader;
            this.ground = ground;
        }

        boolean tell() {
            ground.clear();
            windTold = false;
            nightTold = false;
            for (int line = 0; line <= TAPE_LIMIT && reader.kind != Reader.END; line++) {
                if (!tellLine(line == 0) || !reader.passSign(';')) {
                    return false;
                }
            }
            return true;
        }

        private boolean tellLine(boolean first) {
            if (reader.isWord("flat")) {
                return first ? tellSize() : reader.refuse(Reader.LATE_FLAT);
            }
            if (reader.isWord("tower")) {
                return tellTower();
            }
            if (reader.isWord("wind")) {
                return tellWind();
            }
            if (reader.isWord("night")) {
                return tellNight();
            }
            if (reader.isWord("mirage")) {
                return tellMirage();
            }
            int kind = kindHere();
            return kind == NONE ? reader.refuse(Reader.MISPLACED) : tellWalker(kind);
        }

        private int kindHere() {
            if (reader.isWord("plain")) {
                return Folk.PLAIN;
            }
            if (reader.isWord("stubborn")) {
                return Folk.STUBBORN;
            }
            if (reader.isWord("fearful")) {
                return Folk.FEARFUL;
            }
            if (reader.isWord("child")) {
                return Folk.CHILD;
            }
            return reader.isWord("camel") ? Folk.CAMEL : NONE;
        }

        private boolean tellSize() {
            reader.advance();
            int width = reader.number(2, 10);
            if (width == NONE) {
                return false;
            }
            int height = reader.number(2, 10);
            if (height == NONE) {
                return false;
            }
            ground.width = width;
            ground.height = height;
            return true;
        }

        private int tellCell() {
            int x = reader.number(0, ground.width - 1);
            if (x == NONE) {
                return NONE;
            }
            int y = reader.number(0, ground.height - 1);
            return y == NONE ? NONE : ground.width * y + x;
        }

        private boolean tellTower() {
            int tower = ground.towers;
            if (tower >= MAX_TOWERS) {
                return reader.refuse(Reader.TOO_MUCH);
            }
            reader.advance();
            int cell = tellCell();
            if (cell == NONE) {
                return false;
            }
            if (ground.hasTowerAt(cell)) {
                return reader.refuseBefore(Reader.TWICE);
            }
            int range = reader.number(1, 20);
            if (range == NONE) {
                return false;
            }
            int voice = reader.number(0, 3);
            if (voice == NONE) {
                return false;
            }
            int strokes = tellStrokes();
            if (strokes == NONE) {
                return false;
            }
            ground.towerCell[tower] = cell;
            ground.range[tower] = range;
            ground.voice[tower] = voice;
            ground.strokes[tower] = strokes;
            ground.isFalse[tower] = reader.isWord("false");
            if (ground.isFalse[tower]) {
                reader.advance();
            }
            ground.towers = tower + 1;
            return true;
        }

        private int tellStrokes() {
            if (!reader.isWord("strokes")) {
                return USUAL_STROKES;
            }
            reader.advance();
            return reader.number(1, 99);
        }

        private boolean tellWalker(int kind) {
            int walker = ground.walkers;
            if (walker >= MAX_WALKERS) {
                return reader.refuse(Reader.TOO_MUCH);
            }
            reader.advance();
            int cell = tellCell();
            if (cell == NONE) {
                return false;
            }
            int water = reader.number(0, 99);
            if (water == NONE) {
                return false;
            }
            ground.kind[walker] = kind;
            ground.home[walker] = cell;
            ground.water[walker] = water;
            ground.walkers = walker + 1;
            return true;
        }

        private boolean tellWind() {
            if (windTold) {
                return reader.refuse(Reader.TWICE);
            }
            windTold = true;
            reader.advance();
            int direction = directionHere();
            if (direction == NONE) {
                return reader.refuse(Reader.MISPLACED);
            }
            reader.advance();
            int strength = reader.number(0, 3);
            if (strength == NONE) {
                return false;
            }
            ground.wind = direction;
            ground.strength = strength;
            return true;
        }

        private int directionHere() {
            if (reader.isWord("north")) {
                return Ground.NORTH;
            }
            if (reader.isWord("east")) {
                return Ground.EAST;
            }
            if (reader.isWord("south")) {
                return Ground.SOUTH;
            }
            return reader.isWord("west") ? Ground.WEST : NONE;
        }

        private boolean tellNight() {
            if (nightTold) {
                return reader.refuse(Reader.TWICE);
            }
            nightTold = true;
            reader.advance();
            int dark = reader.number(0, 9);
            if (dark == NONE) {
                return false;
            }
            ground.dark = dark;
            return true;
        }

        private boolean tellMirage() {
            reader.advance();
            int cell = tellCell();
            if (cell == NONE) {
                return false;
            }
            if (ground.mirage[cell]) {
                return reader.refuseBefore(Reader.TWICE);
            }
            ground.mirage[cell] = true;
            return true;
        }
    }

    /** Reads orders from their text, and unrolls them into the first 200 sets they ask for. */
    private static final class OrderBook {
        private static final int MOST_WITHIN = 3;
        private static final int MOST_TIMES = 20;

        private final Reader reader;
        private final int[] begins = new int[MOST_WITHIN];
        private final int[] times = new int[MOST_WITHIN];
        private int within;
        final int[] sets = new int[MAX_STROKES_AT_ONCE];
        int many;

        OrderBook(Reader reader) {
            this.reader = reader;
        }

        boolean read(int towers) {
            many = 0;
            within = 0;
            for (int step = 0; step <= TAPE_LIMIT && reader.kind != Reader.END; step++) {
                if (!readPart(towers)) {
                    return false;
                }
            }
            return within == 0 || reader.refuse(Reader.MISPLACED);
        }

        private boolean readPart(int towers) {
            if (reader.isWord("ring")) {
                return readRing(towers);
            }
            if (reader.isWord("again")) {
                return openAgain();
            }
            if (within > 0 && reader.isSign('}')) {
                closeAgain();
                return true;
            }
            return reader.refuse(Reader.MISPLACED);
        }

        private boolean readRing(int towers) {
            reader.advance();
            int set = 0;
            for (int i = 0; i <= TAPE_LIMIT && reader.kind == Reader.NUMBER; i++) {
                int tower = reader.number(0, towers - 1);
                if (tower == NONE) {
                    return false;
                }
                if ((set >> tower & 1) == 1) {
                    return reader.refuseBefore(Reader.TWICE);
                }
                set |= 1 << tower;
            }
            if (!reader.passSign(';')) {
                return false;
            }
            put(set);
            return true;
        }

        private void put(int set) {
            if (many < MAX_STROKES_AT_ONCE) {
                sets[many] = set;
                many++;
            }
        }

        private boolean openAgain() {
            if (within >= MOST_WITHIN) {
                return reader.refuse(Reader.TOO_MUCH);
            }
            reader.advance();
            int asked = reader.number(1, MOST_TIMES);
            if (asked == NONE || !reader.passSign('{')) {
                return false;
            }
            begins[within] = many;
            times[within] = asked;
            within++;
            return true;
        }

        private void closeAgain() {
            reader.advance();
            within--;
            int begin = begins[within];
            int end = many;
            for (int time = 1; time < times[within]; time++) {
                for (int i = begin; i < end; i++) {
                    put(sets[i]);
                }
            }
        }
    }

    /** Which towers are heard where, and which of a set is the nearest of these. */
    private static final class Ears {
        private static final int SETS = 1 << MAX_TOWERS;
        private static final int VOICES = 4;

        final byte[] heardAt = new byte[MAX_CELLS];
        private final byte[] nearest = new byte[SETS * MAX_CELLS];
        private final int[] distances = new int[MAX_TOWERS];
        private final int[] ofVoice = new int[VOICES];
        private final int[] alike = new int[MAX_TOWERS];

        void listen(Ground ground) {
            Arrays.fill(ofVoice, 0);
            for (int t = 0; t < ground.towers; t++) {
                ofVoice[ground.voice[t]] |= 1 << t;
            }
            for (int t = 0; t < ground.towers; t++) {
                alike[t] = ofVoice[ground.voice[t]];
            }
            int cells = Math.min(ground.cells(), MAX_CELLS);
            for (int cell = 0; cell < cells; cell++) {
                listenAt(ground, cell);
            }
        }

        private void listenAt(Ground ground, int cell) {
            int heard = 0;
            nearest[cell] = NONE;
            for (int t = 0; t < ground.towers; t++) {
                distances[t] = ground.distance(t, cell);
                boolean carried = ground.carries(t, cell);
                if (carried) {
                    heard |= 1 << t;
                }
                // Sets whose highest tower is t: each is one of the sets before, and t.
                for (int rest = 0; rest < 1 << t; rest++) {
                    int other = nearest[rest * MAX_CELLS + cell];
                    boolean nearer = carried && (other < 0 || distances[t] < distances[other]);
                    nearest[(rest + (1 << t)) * MAX_CELLS + cell] = (byte) (nearer ? t : other);
                }
            }
            heardAt[cell] = (byte) heard;
        }

        /** The nearest tower of a set that is heard in a cell, of like ones the least; NONE: none is. */
        int nearestOf(int set, int cell) {
            return nearest[set * MAX_CELLS + cell];
        }

        /** The same among those that have the voice of a tower. */
        int nearestLike(int tower, int set, int cell) {
            return nearest[(set & alike[tower]) * MAX_CELLS + cell];
        }

        boolean confuse(int set, int cell) {
            int heard = set & heardAt[cell];
            for (int v = 0; v < VOICES; v++) {
                int alikeOnes = heard & ofVoice[v];
                if ((alikeOnes & alikeOnes - 1) != 0) {
                    return true;
                }
            }
            return false;
        }
    }

    /** Where a step leads, and which way one goes who follows a tower. */
    private static final class Feet {
        private static final int WAYS = 4;

        private final int[] next = new int[MAX_CELLS * WAYS];
        private final int[] way = new int[MAX_CELLS * MAX_TOWERS];
        private final int[] goal = new int[MAX_TOWERS];

        void learn(Ground ground) {
            int cells = Math.min(ground.cells(), MAX_CELLS);
            for (int cell = 0; cell < cells; cell++) {
                learnSteps(ground, cell);
                for (int t = 0; t < ground.towers; t++) {
                    way[cell * MAX_TOWERS + t] = towards(ground, cell, t);
                }
            }
            System.arraycopy(ground.towerCell, 0, goal, 0, MAX_TOWERS);
        }

        private void learnSteps(Ground ground, int cell) {
            int x = ground.xOf(cell);
            int y = ground.yOf(cell);
            int at = cell * WAYS;
            next[at + Ground.NORTH] = y > 0 ? cell - ground.width : cell;
            next[at + Ground.EAST] = x < ground.width - 1 ? cell + 1 : cell;
            next[at + Ground.SOUTH] = y < ground.height - 1 ? cell + ground.width : cell;
            next[at + Ground.WEST] = x > 0 ? cell - 1 : cell;
        }

        private static int towards(Ground ground, int cell, int tower) {
            int goal = ground.towerCell[tower];
            int east = ground.xOf(goal) - ground.xOf(cell);
            int south = ground.yOf(goal) - ground.yOf(cell);
            int direction;
            if (Math.abs(east) >= Math.abs(south)) {
                direction = east > 0 ? Ground.EAST : Ground.WEST;
            } else {
                direction = south > 0 ? Ground.SOUTH : Ground.NORTH;
            }
            boolean misled = ground.dark == 0 && ground.mirage[cell];
            return misled ? (direction + 2) % WAYS : direction;
        }

        /** Where one is next who follows a tower (or none, below 0): 4 by the cell, and the heading. */
        int pace(int cell, int heading, int tower) {
            if (tower < 0) {
                return next[cell * WAYS + heading] * WAYS + (heading + 1) % WAYS;
            }
            if (goal[tower] == cell) {
                return cell * WAYS + heading;
            }
            int direction = way[cell * MAX_TOWERS + tower];
            return next[cell * WAYS + direction] * WAYS + direction;
        }

        static int cellOf(int paced) {
            return paced / WAYS;
        }

        static int headingOf(int paced) {
            return paced % WAYS;
        }

        boolean isAt(int cell, int tower) {
            return tower >= 0 && goal[tower] == cell;
        }
    }

    /** All walkers as they are, and the strokes that the towers have left. */
    private static final class Folk {
        static final int PLAIN = 0;
        static final int STUBBORN = 1;
        static final int FEARFUL = 2;
        static final int CHILD = 3;
        static final int CAMEL = 4;

        static final int OUT = 0;
        static final int IN = 1;
        static final int TAKEN = 2;
        static final int FALLEN = 3;

        static final int CELL = 0;
        static final int WATER = 1;
        static final int HEADING = 2;
        static final int HOW = 3;
        static final int FOLLOWED = 4;
        static final int TURNS = 5;
        private static final int FIELDS = 6;
        private static final int LEFT = FIELDS * MAX_WALKERS;
        static final int SIZE = LEFT + MAX_TOWERS;

        static final int FOLLOWED_NONE = -2;
        static final int DID_NOT_GO = -3;
        private static final int STAYS = -2;
        private static final int IN_A_RING = 3;
        private static final int DREAM_LIMIT = 1000000;

        private final Ground ground;
        private final Ears ears;
        private final Feet feet;
        final int[] all = new int[SIZE];
        final int[] reasons = new int[MAX_WALKERS];

        Folk(Ground ground, Ears ears, Feet feet) {
            this.ground = ground;
            this.ears = ears;
            this.feet = feet;
        }

        void begin() {
            for (int w = 0; w < ground.walkers; w++) {
                int base = w * FIELDS;
                all[base + CELL] = ground.home[w];
                all[base + WATER] = ground.water[w];
                all[base + HEADING] = Ground.NORTH;
                all[base + HOW] = OUT;
                all[base + FOLLOWED] = NONE;
                all[base + TURNS] = 0;
            }
            for (int t = 0; t < ground.towers; t++) {
                all[LEFT + t] = ground.strokes[t];
            }
        }

        void take(Folk other) {
            System.arraycopy(other.all, 0, all, 0, SIZE);
        }

        int of(int walker, int field) {
            return all[walker * FIELDS + field];
        }

        int strokesLeft(int tower) {
            return all[LEFT + tower];
        }

        void silence(int tower) {
            all[LEFT + tower] = 0;
        }

        int howMany(int how) {
            int many = 0;
            for (int w = 0; w < ground.walkers; w++) {
                if (all[w * FIELDS + HOW] == how) {
                    many++;
                }
            }
            return many;
        }

        boolean canRing(int set) {
            if (!ground.hasTowers(set)) {
                return false;
            }
            for (int t = 0; t < ground.towers; t++) {
                if ((set >> t & 1) == 1 && all[LEFT + t] < 1) {
                    return false;
                }
            }
            return true;
        }

        /** A stroke of a set that can be. */
        void hear(int set) {
            for (int t = 0; t < ground.towers; t++) {
                all[LEFT + t] -= set >> t & 1;
            }
            for (int w = 0; w < ground.walkers; w++) {
                boolean goes = of(w, HOW) == OUT && !falls(w);
                reasons[w] = goes ? go(w, set) : DID_NOT_GO;
            }
        }

        /** Whether one who is out falls for want of water; he drinks, if not. */
        private boolean falls(int walker) {
            int base = walker * FIELDS;
            if (ground.kind[walker] == CAMEL) {
                return false;
            }
            if (all[base + WATER] > 0) {
                all[base + WATER]--;
                return false;
            }
            all[base + HOW] = FALLEN;
            all[base + TURNS]++;
            return true;
        }

        /** What one does who has water; the tower that he follows, or why he follows none. */
        private int go(int walker, int set) {
            int base = walker * FIELDS;
            boolean rests = ground.kind[walker] == CHILD && all[base + TURNS] % 2 == 0;
            all[base + TURNS]++;
            if (rests) {
                return DID_NOT_GO;
            }
            int tower = choose(walker, set);
            if (tower == STAYS) {
                return FOLLOWED_NONE;
            }
            int paced = feet.pace(all[base + CELL], all[base + HEADING], tower);
            all[base + CELL] = Feet.cellOf(paced);
            all[base + HEADING] = Feet.headingOf(paced);
            if (tower < 0) {
                return FOLLOWED_NONE;
            }
            all[base + FOLLOWED] = tower;
            if (feet.isAt(all[base + CELL], tower)) {
                all[base + HOW] = ground.isFalse[tower] ? TAKEN : IN;
            }
            return tower;
        }

        private int choose(int walker, int set) {
            int cell = of(walker, CELL);
            int kind = ground.kind[walker];
            if (kind == FEARFUL && ears.confuse(set, cell)) {
                return STAYS;
            }
            int before = of(walker, FOLLOWED);
            if (kind == STUBBORN && before >= 0) {
                int like = ears.nearestLike(before, set, cell);
                if (like >= 0) {
                    return like;
                }
            }
            return ears.nearestOf(set, cell);
        }

        /** How (what 0) one ends by a set for ever, or after how many strokes (1). */
        int endOf(int walker, int set, int what) {
            int mark = likeness(walker);
            int sinceMark = 0;
            int untilNextMark = 1;
            for (int strokes = 1; strokes <= DREAM_LIMIT; strokes++) {
                go(walker, set);
                sinceMark++;
                int how = of(walker, HOW);
                if (how != OUT) {
                    return what == 0 ? how : strokes;
                }
                if (likeness(walker) == mark) {
                    return what == 0 ? IN_A_RING : sinceMark;
                }
                // Marks that lie ever further apart come to lie in the ring, as long as it may be.
                if (sinceMark == untilNextMark) {
                    mark = likeness(walker);
                    sinceMark = 0;
                    untilNextMark *= 2;
                }
            }
            return NONE;
        }

        private int likeness(int walker) {
            int place = of(walker, CELL) * 4 + of(walker, HEADING);
            int childish = ground.kind[walker] == CHILD ? of(walker, TURNS) % 2 : 0;
            return (place * (MAX_TOWERS + 1) + of(walker, FOLLOWED) + 1) * 2 + childish;
        }
    }

    /** What came of all strokes so far: the walkers, the strokes that can be undone or done again, the status. */
    private static final class Course {
        private static final int MEMORY = 100;
        private static final int SET = Folk.SIZE;
        private static final int REASONS = SET + 1;
        private static final int ENTRY = REASONS + MAX_WALKERS;

        final Folk folk;
        private final int[] past = new int[MEMORY * ENTRY];
        private int first;
        int done;
        int undone;
        int refusedTexts;
        int refusedStrokes;

        Course(Ground ground, Ears ears, Feet feet) {
            folk = new Folk(ground, ears, feet);
        }

        /** All anew but the status: only an image takes back what was refused. */
        void begin() {
            folk.begin();
            first = 0;
            done = 0;
            undone = 0;
        }

        void take(Course other) {
            folk.take(other.folk);
            System.arraycopy(other.past, 0, past, 0, past.length);
            first = other.first;
            done = other.done;
            undone = other.undone;
            refusedTexts = other.refusedTexts;
            refusedStrokes = other.refusedStrokes;
        }

        private int entry(int i) {
            return (first + i) % MEMORY * ENTRY;
        }

        /** A stroke of a set that can be: how many came in. */
        int strikeNew(int set) {
            undone = 0;
            if (done == MEMORY) {
                first = (first + 1) % MEMORY;
                done--;
            }
            int before = folk.howMany(Folk.IN);
            strikeNext(set);
            return folk.howMany(Folk.IN) - before;
        }

        private void strikeNext(int set) {
            int at = entry(done);
            System.arraycopy(folk.all, 0, past, at, Folk.SIZE);
            folk.hear(set);
            past[at + SET] = set;
            System.arraycopy(folk.reasons, 0, past, at + REASONS, MAX_WALKERS);
            done++;
        }

        void takeBack() {
            done--;
            undone++;
            System.arraycopy(past, entry(done), folk.all, 0, Folk.SIZE);
        }

        /** The stroke undone last: its set. */
        int strikeAgain() {
            int set = past[entry(done) + SET];
            strikeNext(set);
            undone--;
            return set;
        }

        int reason(int walker, int i) {
            return past[entry(i) + REASONS + walker];
        }
    }

    /** Where one more may be, who is not known to the flat: each case by its cell and heading. */
    private static final class Quest {
        private final Ground ground;
        private final Ears ears;
        private final Feet feet;
        private final int[] cell = new int[MAX_CELLS];
        private final int[] heading = new int[MAX_CELLS];
        boolean open;
        int left;

        Quest(Ground ground, Ears ears, Feet feet) {
            this.ground = ground;
            this.ears = ears;
            this.feet = feet;
        }

        void begin() {
            open = true;
            left = Math.min(ground.cells(), MAX_CELLS);
            for (int i = 0; i < left; i++) {
                cell[i] = i;
                heading[i] = Ground.NORTH;
            }
        }

        void goOn(int set) {
            if (!open) {
                return;
            }
            int stay = 0;
            for (int i = 0; i < left; i++) {
                int tower = ears.nearestOf(set, cell[i]);
                int paced = feet.pace(cell[i], heading[i], tower);
                if (!feet.isAt(Feet.cellOf(paced), tower)) {
                    cell[stay] = Feet.cellOf(paced);
                    heading[stay] = Feet.headingOf(paced);
                    stay++;
                }
            }
            left = stay;
        }

        void keepThose(int line, boolean row, boolean not) {
            int stay = 0;
            for (int i = 0; i < left; i++) {
                int at = row ? ground.yOf(cell[i]) : ground.xOf(cell[i]);
                if (at == line != not) {
                    cell[stay] = cell[i];
                    heading[stay] = heading[i];
                    stay++;
                }
            }
            left = stay;
        }

        int howManyIn(int where) {
            int many = 0;
            for (int i = 0; i < left; i++) {
                if (cell[i] == where) {
                    many++;
                }
            }
            return many;
        }
    }

    /** Looks for the best rows of strokes. */
    private static final class Planner {
        private static final int MOST_TRIED = 20000;

        private final Ground ground;
        private final Folk[] places = new Folk[MAX_PLAN + 1];
        private final int[] row = new int[MAX_PLAN];
        final int[] found = new int[MAX_PLAN];
        private int most;
        private int fewest;

        Planner(Ground ground, Ears ears, Feet feet) {
            this.ground = ground;
            for (int i = 0; i <= MAX_PLAN; i++) {
                places[i] = new Folk(ground, ears, feet);
            }
        }

        /** Whether n strokes in every way that can be are more than may be tried. */
        boolean isSpent(Folk now, int n) {
            int tried = 0;
            for (int place = 1; place <= n; place++) {
                int rows = 1;
                for (int t = 0; t < ground.towers; t++) {
                    rows *= waysToRing(now.strokesLeft(t), place);
                }
                tried += rows;
            }
            return tried > MOST_TRIED;
        }

        /** In how many ways one tower rings by some of so many strokes. */
        private static int waysToRing(int left, int strokes) {
            int ways = 0;
            int choices = 1;
            for (int rung = 0; rung <= strokes && rung <= left; rung++) {
                ways += choices;
                choices = choices * (strokes - rung) / (rung + 1);
            }
            return ways;
        }

        /** How many more come in by the best n strokes, which are found then; a tower may be silent. */
        int mostMore(Folk now, int n, int silent) {
            most = NONE;
            fewest = 0;
            places[0].take(now);
            if (silent != NONE) {
                places[0].silence(silent);
            }
            explore(0, n);
            return most - now.howMany(Folk.IN);
        }

        private void explore(int depth, int n) {
            if (depth >= n || depth >= MAX_PLAN) {
                judge(n);
                return;
            }
            Folk here = places[depth];
            Folk next = places[depth + 1];
            for (int set = 0; set < 1 << ground.towers; set++) {
                if (here.canRing(set)) {
                    row[depth] = set;
                    next.take(here);
                    next.hear(set);
                    if (mayBeBetter(next)) {
                        explore(depth + 1, n);
                    }
                }
            }
        }

        /** Even if all who are out came in, and none were taken: what can't be better is left alone. */
        private boolean mayBeBetter(Folk folk) {
            return isBetter(folk.howMany(Folk.IN) + folk.howMany(Folk.OUT), folk.howMany(Folk.TAKEN));
        }

        private boolean isBetter(int in, int taken) {
            return in > most || in == most && taken < fewest;
        }

        private void judge(int n) {
            int in = places[n].howMany(Folk.IN);
            int taken = places[n].howMany(Folk.TAKEN);
            if (isBetter(in, taken)) {
                most = in;
                fewest = taken;
                System.arraycopy(row, 0, found, 0, n);
            }
        }
    }
}
