import java.util.ArrayList;
import java.util.HashMap;
import java.util.List;
import java.util.Map;
import java.util.NoSuchElementException;
import java.util.regex.Matcher;
import java.util.regex.Pattern;

/** The document once more, as plainly and slowly as can be, to compare the program with. */
final class Model {
    private static final List<String> KINDS = List.of("plain", "stubborn", "fearful", "child", "camel");
    private static final List<String> WINDS = List.of("north", "east", "south", "west");

    static final class Fault extends Exception {
        private static final long serialVersionUID = 1L;
        final int kind;
        final int place;

        Fault(int kind, int place) {
            this.kind = kind;
            this.place = place;
        }
    }

    static final class Tower {
        int x;
        int y;
        int range;
        int voice;
        int strokes = 99;
        boolean isFalse;
    }

    static final class Walker {
        int kind;
        int x;
        int y;
        int water;
        int heading;
        int how;
        int followed = -1;
        int turns;
        int why = -3;

        Walker copy() {
            Walker w = new Walker();
            w.kind = kind;
            w.x = x;
            w.y = y;
            w.water = water;
            w.heading = heading;
            w.how = how;
            w.followed = followed;
            w.turns = turns;
            w.why = why;
            return w;
        }

        String likeness() {
            return x + " " + y + " " + heading + " " + followed + " " + (kind == 3 ? turns % 2 : 0);
        }
    }

    static final class Flat {
        int width = 6;
        int height = 6;
        int wind;
        int strength;
        int night;
        final List<Tower> towers = new ArrayList<>();
        final List<Walker> walkers = new ArrayList<>();
        final List<String> mirages = new ArrayList<>();
    }

    /** Walkers and strokes left after some stroke. */
    static final class Moment {
        final List<Walker> walkers = new ArrayList<>();
        int[] left = new int[0];
        int set;

        Moment copy() {
            Moment m = new Moment();
            for (Walker w : walkers) {
                m.walkers.add(w.copy());
            }
            m.left = left.clone();
            m.set = set;
            return m;
        }

        int how(int how) {
            return (int) walkers.stream().filter(w -> w.how == how).count();
        }
    }

    private StringBuilder tape = new StringBuilder();
    private Flat flat = new Flat();
    /** Moments one behind the other; the one at index now is how it is; those behind it can be done again. */
    private List<Moment> moments = new ArrayList<>();
    private int now;
    private int[] status = new int[2];
    private int faultPlace = -1;
    private List<Walker> search;
    private int[] best = new int[0];
    private List<Moment> imageMoments;
    private int imageNow;
    private int[] imageStatus;

    Model() {
        anew();
    }

    private void anew() {
        Moment start = new Moment();
        for (Walker w : flat.walkers) {
            start.walkers.add(w.copy());
        }
        start.left = flat.towers.stream().mapToInt(t -> t.strokes).toArray();
        moments = new ArrayList<>(List.of(start));
        now = 0;
        search = null;
        best = new int[0];
        imageMoments = null;
    }

    private Moment here() {
        return moments.get(now);
    }

    int feed(int... numbers) {
        if (tape.length() + 20 > 500) {
            return -1;
        }
        for (int number : numbers) {
            for (int shift = 24; shift >= 0; shift -= 8) {
                tape.append((char) (number >> shift & 255));
            }
        }
        return tape.length();
    }

    private String text(int n) {
        if (n < 0 || n > tape.length()) {
            throw new IllegalArgumentException();
        }
        String text = tape.substring(0, n);
        tape = new StringBuilder();
        return text;
    }

    int flat(int n) {
        String text = text(n);
        faultPlace = -1;
        try {
            flat = new Parser(text).flat();
        } catch (Fault f) {
            status[0]++;
            faultPlace = f.place;
            return f.kind;
        }
        anew();
        return 0;
    }

    int orders(int n) {
        String text = text(n);
        faultPlace = -1;
        List<Integer> sets;
        try {
            sets = new Parser(text).orders(flat.towers.size());
        } catch (Fault f) {
            status[0]++;
            faultPlace = f.place;
            return -1 - f.kind;
        }
        int done = 0;
        for (int set : sets) {
            if (done == 200 || stroke(set) == -1) {
                break;
            }
            done++;
        }
        return done;
    }

    int fault() {
        return faultPlace;
    }

    int count(int what) {
        int[] all = {flat.width, flat.height, flat.towers.size(), flat.walkers.size(), flat.wind, flat.strength,
            flat.night, now, moments.size() - 1 - now, here().how(1), here().how(2), here().how(3),
            tape.length(), status[0], status[1]};
        return pick(all, what);
    }

    private static int pick(int[] all, int what) {
        if (what < 0 || what >= all.length) {
            throw new NoSuchElementException();
        }
        return all[what];
    }

    private Tower towerOf(int tower) {
        if (tower < 0 || tower >= flat.towers.size()) {
            throw new NoSuchElementException();
        }
        return flat.towers.get(tower);
    }

    private Walker walkerOf(Moment m, int walker) {
        if (walker < 0 || walker >= m.walkers.size()) {
            throw new NoSuchElementException();
        }
        return m.walkers.get(walker);
    }

    private void cell(int cell) {
        if (cell < 0 || cell >= flat.width * flat.height) {
            throw new NoSuchElementException();
        }
    }

    int tower(int tower, int what) {
        Tower t = towerOf(tower);
        return pick(new int[] {flat.width * t.y + t.x, t.range, t.voice, here().left[tower], t.isFalse ? 1 : 0}, what);
    }

    int walker(int walker, int what) {
        Walker w = walkerOf(here(), walker);
        return pick(new int[] {w.kind, flat.width * w.y + w.x, w.water, w.heading, w.how, w.followed, w.turns}, what);
    }

    private int far(Tower t, int x, int y) {
        int steps = Math.abs(t.x - x) + Math.abs(t.y - y);
        int[] along = {t.y - y, x - t.x, y - t.y, t.x - x};
        return 4 * steps - flat.strength * along[flat.wind];
    }

    int far(int tower, int cell) {
        Tower t = towerOf(tower);
        cell(cell);
        return far(t, cell % flat.width, cell / flat.width);
    }

    private List<Integer> heardOf(int set, int x, int y) {
        List<Integer> heard = new ArrayList<>();
        for (int t = 0; t < flat.towers.size(); t++) {
            Tower tower = flat.towers.get(t);
            if ((set & 1 << t) != 0 && far(tower, x, y) <= 4 * (tower.range + flat.night)) {
                heard.add(t);
            }
        }
        return heard;
    }

    int heard(int cell) {
        cell(cell);
        int bits = 0;
        for (int t : heardOf(31, cell % flat.width, cell / flat.width)) {
            bits += 1 << t;
        }
        return bits;
    }

    private boolean canBe(Moment m, int set) {
        for (int bit = 0; bit < 32; bit++) {
            if ((set >>> bit & 1) == 1 && (bit >= m.left.length || m.left[bit] == 0)) {
                return false;
            }
        }
        return true;
    }

    private Moment after(Moment m, int set) {
        Moment next = m.copy();
        next.set = set;
        for (int t = 0; t < next.left.length; t++) {
            if ((set >> t & 1) == 1) {
                next.left[t]--;
            }
        }
        for (Walker w : next.walkers) {
            w.why = -3;
            if (w.how == 0) {
                w.turns++;
                if (w.kind != 4 && w.water == 0) {
                    w.how = 3;
                } else {
                    if (w.kind != 4) {
                        w.water--;
                    }
                    go(w, set);
                }
            }
        }
        return next;
    }

    /** One who has water, by his stroke number w.turns. */
    private void go(Walker w, int set) {
        if (w.kind == 3 && w.turns % 2 == 1) {
            w.why = -3;
            return;
        }
        List<Integer> heard = heardOf(set, w.x, w.y);
        w.why = -2;
        if (heard.isEmpty()) {
            step(w, w.heading);
            w.heading = (w.heading + 1) % 4;
            return;
        }
        if (w.kind == 2) {
            for (int a : heard) {
                for (int b : heard) {
                    if (a != b && flat.towers.get(a).voice == flat.towers.get(b).voice) {
                        return;
                    }
                }
            }
        }
        if (w.kind == 1 && w.followed != -1) {
            List<Integer> liked = new ArrayList<>();
            for (int t : heard) {
                if (flat.towers.get(t).voice == flat.towers.get(w.followed).voice) {
                    liked.add(t);
                }
            }
            if (!liked.isEmpty()) {
                heard = liked;
            }
        }
        int follows = heard.get(0);
        for (int t : heard) {
            if (far(flat.towers.get(t), w.x, w.y) < far(flat.towers.get(follows), w.x, w.y)) {
                follows = t;
            }
        }
        w.followed = follows;
        w.why = follows;
        follow(w, flat.towers.get(follows));
    }

    private void follow(Walker w, Tower t) {
        if (w.x == t.x && w.y == t.y) {
            w.how = t.isFalse ? 2 : 1;
            return;
        }
        int wide = Math.abs(t.x - w.x);
        int high = Math.abs(t.y - w.y);
        int way = wide >= high ? (t.x > w.x ? 1 : 3) : (t.y > w.y ? 2 : 0);
        if (flat.night == 0 && flat.mirages.contains(w.x + "," + w.y)) {
            way = new int[] {2, 3, 0, 1}[way];
        }
        w.heading = way;
        step(w, way);
        if (w.x == t.x && w.y == t.y) {
            w.how = t.isFalse ? 2 : 1;
        }
    }

    private void step(Walker w, int way) {
        int x = w.x + new int[] {0, 1, 0, -1}[way];
        int y = w.y + new int[] {-1, 0, 1, 0}[way];
        if (x >= 0 && y >= 0 && x < flat.width && y < flat.height) {
            w.x = x;
            w.y = y;
        }
    }

    int stroke(int set) {
        if (!canBe(here(), set)) {
            status[1]++;
            return -1;
        }
        int before = here().how(1);
        while (moments.size() > now + 1) {
            moments.remove(moments.size() - 1);
        }
        moments.add(after(here(), set));
        now++;
        if (now > 100) {
            moments.remove(0);
            now--;
        }
        seek(set);
        return here().how(1) - before;
    }

    private void seek(int set) {
        if (search == null) {
            return;
        }
        for (Walker w : search) {
            go(w, set);
        }
        search.removeIf(w -> w.how != 0);
    }

    int ring(int set, int many) {
        if (many < 0 || many > 200) {
            throw new IllegalArgumentException();
        }
        for (int i = 0; i < many; i++) {
            if (stroke(set) == -1) {
                return i;
            }
        }
        return many;
    }

    boolean undo() {
        if (now == 0) {
            return false;
        }
        now--;
        return true;
    }

    boolean redo() {
        if (now == moments.size() - 1) {
            return false;
        }
        now++;
        seek(here().set);
        return true;
    }

    int why(int walker, int i) {
        walkerOf(here(), walker);
        if (i < 0 || i >= now) {
            throw new NoSuchElementException();
        }
        return moments.get(i + 1).walkers.get(walker).why;
    }

    int search() {
        search = new ArrayList<>();
        for (int y = 0; y < flat.height; y++) {
            for (int x = 0; x < flat.width; x++) {
                Walker w = new Walker();
                w.x = x;
                w.y = y;
                search.add(w);
            }
        }
        return search.size();
    }

    int seen(int line, boolean row, boolean not) {
        if (line < 0 || line >= (row ? flat.height : flat.width)) {
            throw new NoSuchElementException();
        }
        if (search == null) {
            return -1;
        }
        search.removeIf(w -> ((row ? w.y : w.x) == line) == not);
        return search.size();
    }

    int cases(int cell) {
        if (cell != -1) {
            cell(cell);
        }
        if (search == null) {
            return -1;
        }
        return (int) search.stream().filter(w -> cell == -1 || flat.width * w.y + w.x == cell).count();
    }

    int odds(int cell, int what) {
        cell(cell);
        if (what < 0 || what > 1) {
            throw new NoSuchElementException();
        }
        if (search == null) {
            return -1;
        }
        int upper = cases(cell);
        int lower = Math.max(1, search.size());
        for (int d = lower; d > 1; d--) {
            if (upper % d == 0 && lower % d == 0) {
                upper /= d;
                lower /= d;
            }
        }
        return what == 0 ? upper : lower;
    }

    private int tried;
    private int[] bestFound;
    private int bestIn;
    private int bestTaken;

    private void tryAll(Moment m, int[] row, int place) {
        if (place == row.length) {
            if (bestFound == null || m.how(1) > bestIn || m.how(1) == bestIn && m.how(2) < bestTaken) {
                bestFound = row.clone();
                bestIn = m.how(1);
                bestTaken = m.how(2);
            }
            return;
        }
        for (int set = 0; set < 1 << m.left.length && tried <= 20000; set++) {
            if (canBe(m, set)) {
                tried++;
                row[place] = set;
                tryAll(after(m, set), row, place + 1);
            }
        }
    }

    /** Whether not more than 20,000 were tried. */
    private boolean tryFrom(Moment m, int n) {
        if (n < 1 || n > 4) {
            throw new IllegalArgumentException();
        }
        tried = 0;
        bestFound = null;
        tryAll(m, new int[n], 0);
        return tried <= 20000;
    }

    int best(int n) {
        if (!tryFrom(here(), n)) {
            return -2;
        }
        best = bestFound;
        return bestIn - here().how(1);
    }

    int plan(int i) {
        return pick(best, i);
    }

    int worth(int tower, int n) {
        towerOf(tower);
        if (!tryFrom(here(), n)) {
            return -2;
        }
        int with = bestIn;
        Moment without = here().copy();
        without.left[tower] = 0;
        tryFrom(without, n);
        return with - bestIn;
    }

    int forever(int walker, int set, int what) {
        Walker w = walkerOf(here(), walker).copy();
        if (what < 0 || what > 1) {
            throw new NoSuchElementException();
        }
        if (w.how != 0 || set < 0 || set >= 1 << flat.towers.size()) {
            return -1;
        }
        Map<String, Integer> times = new HashMap<>();
        for (int time = 0; ; time++) {
            if (w.how != 0) {
                return what == 0 ? w.how : time;
            }
            Integer before = times.put(w.likeness(), time);
            if (before != null) {
                return what == 0 ? 3 : time - before;
            }
            w.turns++;
            go(w, set);
        }
    }

    int night(int seed, int strokes) {
        if (strokes < 0 || strokes > 100) {
            throw new IllegalArgumentException();
        }
        int in = 0;
        int s = seed;
        for (int i = 0; i < strokes; i++) {
            int set = 0;
            for (int t = 0; t < flat.towers.size(); t++) {
                s = s * 1103515245 + 12345;
                int draw = (s >> 16 & 0x7fff) % 2;
                if (draw == 1 && here().left[t] > 0) {
                    set += 1 << t;
                }
            }
            in += stroke(set);
        }
        return in;
    }

    void image() {
        imageMoments = new ArrayList<>(moments);
        imageNow = now;
        imageStatus = status.clone();
    }

    boolean restore() {
        if (imageMoments == null) {
            return false;
        }
        moments = new ArrayList<>(imageMoments);
        now = imageNow;
        status = imageStatus.clone();
        return true;
    }

    private static final class Parser {
        private static final Pattern TOKEN = Pattern.compile("[a-z]+|[0-9]+|[;{}]|[ \\n]+|.", Pattern.DOTALL);
        private final List<String> tokens = new ArrayList<>();
        private final List<Integer> starts = new ArrayList<>();
        private int at;

        Parser(String text) {
            Matcher m = TOKEN.matcher(text);
            while (m.find()) {
                if (!m.group().matches("[ \\n]+")) {
                    tokens.add(m.group());
                    starts.add(m.start());
                }
            }
            tokens.add("");
            starts.add(text.length());
        }

        private String token() {
            return tokens.get(at);
        }

        private Fault fault(int kind) {
            return new Fault(kind, starts.get(at));
        }

        private void pass(String token) throws Fault {
            if (!token().equals(token)) {
                throw fault(1);
            }
            at++;
        }

        private boolean passIf(String token) {
            boolean is = token().equals(token);
            at += is ? 1 : 0;
            return is;
        }

        /** The number that stands here; it isn't passed yet. */
        private int number(int low, int high) throws Fault {
            if (!token().matches("[0-9]+")) {
                throw fault(1);
            }
            if (token().length() > 3 || Integer.parseInt(token()) < low || Integer.parseInt(token()) > high) {
                throw fault(2);
            }
            return Integer.parseInt(token());
        }

        private int passNumber(int low, int high) throws Fault {
            int number = number(low, high);
            at++;
            return number;
        }

        Flat flat() throws Fault {
            Flat f = new Flat();
            boolean wind = false;
            boolean night = false;
            for (int line = 0; !token().isEmpty(); line++) {
                String word = token();
                if (word.equals("flat")) {
                    if (line > 0) {
                        throw fault(3);
                    }
                    at++;
                    f.width = passNumber(2, 10);
                    f.height = passNumber(2, 10);
                } else if (word.equals("tower")) {
                    tower(f);
                } else if (KINDS.contains(word)) {
                    walker(f, KINDS.indexOf(word));
                } else if (word.equals("wind")) {
                    if (wind) {
                        throw fault(4);
                    }
                    wind = true;
                    at++;
                    f.wind = WINDS.indexOf(token());
                    if (f.wind < 0) {
                        throw fault(1);
                    }
                    at++;
                    f.strength = passNumber(0, 3);
                } else if (word.equals("night")) {
                    if (night) {
                        throw fault(4);
                    }
                    night = true;
                    at++;
                    f.night = passNumber(0, 9);
                } else if (word.equals("mirage")) {
                    at++;
                    int x = passNumber(0, f.width - 1);
                    int y = number(0, f.height - 1);
                    if (f.mirages.contains(x + "," + y)) {
                        throw fault(4);
                    }
                    at++;
                    f.mirages.add(x + "," + y);
                } else {
                    throw fault(1);
                }
                pass(";");
            }
            return f;
        }

        private void tower(Flat f) throws Fault {
            if (f.towers.size() == 5) {
                throw fault(2);
            }
            at++;
            Tower t = new Tower();
            t.x = passNumber(0, f.width - 1);
            t.y = number(0, f.height - 1);
            if (f.towers.stream().anyMatch(o -> o.x == t.x && o.y == t.y)) {
                throw fault(4);
            }
            at++;
            t.range = passNumber(1, 20);
            t.voice = passNumber(0, 3);
            if (passIf("strokes")) {
                t.strokes = passNumber(1, 99);
            }
            t.isFalse = passIf("false");
            f.towers.add(t);
        }

        private void walker(Flat f, int kind) throws Fault {
            if (f.walkers.size() == 4) {
                throw fault(2);
            }
            at++;
            Walker w = new Walker();
            w.kind = kind;
            w.x = passNumber(0, f.width - 1);
            w.y = passNumber(0, f.height - 1);
            w.water = passNumber(0, 99);
            f.walkers.add(w);
        }

        List<Integer> orders(int towers) throws Fault {
            List<Integer> sets = steps(towers, 0);
            if (!token().isEmpty()) {
                throw fault(1);
            }
            return sets;
        }

        /** The strokes of some steps, of which no more than 201 are of use. */
        private List<Integer> steps(int towers, int within) throws Fault {
            List<Integer> sets = new ArrayList<>();
            while (token().equals("ring") || token().equals("again")) {
                if (passIf("ring")) {
                    sets.add(towersOf(towers));
                    continue;
                }
                if (within == 3) {
                    throw fault(2);
                }
                at++;
                int times = passNumber(1, 20);
                pass("{");
                List<Integer> body = steps(towers, within + 1);
                pass("}");
                for (int i = 0; i < times && sets.size() < 201; i++) {
                    sets.addAll(body);
                }
            }
            return sets;
        }

        private int towersOf(int towers) throws Fault {
            int set = 0;
            while (!token().equals(";")) {
                int tower = number(0, towers - 1);
                if ((set >> tower & 1) == 1) {
                    throw fault(4);
                }
                set |= 1 << tower;
                at++;
            }
            at++;
            return set;
        }
    }
}
