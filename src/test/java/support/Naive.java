import java.math.BigInteger;
import java.util.ArrayList;
import java.util.Arrays;
import java.util.HashSet;
import java.util.List;
import java.util.NoSuchElementException;
import java.util.Set;
import java.util.TreeSet;

/** The document once more, by the slowest and plainest means: what random runs are held against. */
final class Naive {
    static final class Fault extends RuntimeException {
        private static final long serialVersionUID = 1L;
        final int kind;
        final int place;

        Fault(int kind, int place) {
            super(null, null, false, false);
            this.kind = kind;
            this.place = place;
        }
    }

    static final class Token {
        final char kind; // n number, w word, e end, else the sign itself as s
        final String text;
        final int place;

        Token(char kind, String text, int place) {
            this.kind = kind;
            this.text = text;
            this.place = place;
        }
    }

    interface Value {
        int of(int door, int hour, int day);
    }

    interface Step {
        void run();
    }

    static final class Door {
        int a;
        int b;
        int f;
        int t;
    }

    static final class State {
        int hour;
        int met;
        boolean[] barred = new boolean[24];
        int[] used = new int[24];
        int[] at = new int[6];

        State copy() {
            State s = new State();
            s.hour = hour;
            s.met = met;
            s.barred = barred.clone();
            s.used = used.clone();
            s.at = at.clone();
            return s;
        }
    }

    static final class Image {
        State state;
        List<State> works;
    }

    StringBuilder tape = new StringBuilder();
    int faultPlace = -1;
    int missing = 0;
    int illegal = 0;
    int refused = 0;
    int done = 0;
    int begun = 0;

    List<Integer> sees = new ArrayList<>();
    List<Door> doors = new ArrayList<>();
    List<Integer> tours = new ArrayList<>();
    Set<Integer> exits = new TreeSet<>();
    int[] asleep = new int[10];
    Value law = null;
    List<Integer> walk = new ArrayList<>();
    State state = new State();
    List<State> works = new ArrayList<>();
    List<Image> images = new ArrayList<>();

    List<Token> tokens;
    int pos;

    // texts

    static List<Token> cut(String text) {
        List<Token> found = new ArrayList<>();
        int i = 0;
        while (i < text.length()) {
            char c = text.charAt(i);
            int from = i;
            if (c == ' ') {
                i++;
            } else if (c >= '0' && c <= '9') {
                while (i < text.length() && text.charAt(i) >= '0' && text.charAt(i) <= '9') {
                    i++;
                }
                found.add(new Token('n', text.substring(from, i), from));
            } else if (c >= 'a' && c <= 'z') {
                while (i < text.length() && text.charAt(i) >= 'a' && text.charAt(i) <= 'z') {
                    i++;
                }
                found.add(new Token('w', text.substring(from, i), from));
            } else {
                i++;
                found.add(new Token('s', text.substring(from, i), from));
            }
        }
        found.add(new Token('e', "", text.length()));
        return found;
    }

    Token look() {
        return tokens.get(pos);
    }

    boolean is(String text) {
        return look().kind != 'e' && look().text.equals(text);
    }

    void sign(String text) {
        if (!is(text)) {
            throw new Fault(1, look().place);
        }
        pos++;
    }

    int num(int least, int most) {
        Token t = look();
        if (t.kind != 'n') {
            throw new Fault(1, t.place);
        }
        BigInteger v = new BigInteger(t.text);
        if (v.compareTo(BigInteger.valueOf(most)) > 0 || v.compareTo(BigInteger.valueOf(least)) < 0) {
            throw new Fault(2, t.place);
        }
        pos++;
        return v.intValue();
    }

    Token word(String... allowed) {
        Token t = look();
        if (t.kind != 'w' || !Arrays.asList(allowed).contains(t.text)) {
            throw new Fault(1, t.place);
        }
        pos++;
        return t;
    }

    int feed(int a, int b, int c, int d, int e) {
        if (tape.length() + 20 > 600) {
            return -1;
        }
        for (int n : new int[] {a, b, c, d, e}) {
            tape.append((char) (n >>> 24)).append((char) (n >>> 16 & 255));
            tape.append((char) (n >>> 8 & 255)).append((char) (n & 255));
        }
        return tape.length();
    }

    String take(int n, int most) {
        if (n < 0 || n > tape.length() || n > most) {
            throw bad();
        }
        String text = tape.substring(0, n);
        tape.setLength(0);
        faultPlace = -1;
        tokens = cut(text);
        pos = 0;
        return text;
    }

    int told(Fault f) {
        faultPlace = f.place;
        return f.kind - 10;
    }

    int museum(int n) {
        take(n, 600);
        List<Integer> s = new ArrayList<>();
        List<Door> d = new ArrayList<>();
        List<Integer> t = new ArrayList<>();
        Set<Integer> x = new TreeSet<>();
        int[] q = new int[10];
        Arrays.fill(q, 16);
        try {
            int clauses = 0;
            while (look().kind != 'e') {
                Token w = word("room", "door", "exit", "tour", "warder");
                if (++clauses > 60) {
                    throw new Fault(3, w.place);
                }
                if (w.text.equals("room")) {
                    if (s.size() == 10) {
                        throw new Fault(3, w.place);
                    }
                    s.add(num(0, 7));
                } else if (w.text.equals("door")) {
                    if (d.size() == 24) {
                        throw new Fault(3, w.place);
                    }
                    Door door = new Door();
                    door.a = num(0, s.size() - 1);
                    int place = look().place;
                    door.b = num(0, s.size() - 1);
                    if (door.a == door.b) {
                        throw new Fault(2, place);
                    }
                    door.f = num(0, 23);
                    door.t = num(door.f, 23);
                    d.add(door);
                } else if (w.text.equals("exit")) {
                    x.add(num(0, s.size() - 1));
                } else if (w.text.equals("tour")) {
                    if (t.size() == 6) {
                        throw new Fault(3, w.place);
                    }
                    t.add(num(0, s.size() - 1));
                } else {
                    int r = num(0, s.size() - 1);
                    q[r] = num(0, 16);
                }
                sign(";");
            }
        } catch (Fault f) {
            return told(f);
        }
        sees = s;
        doors = d;
        tours = t;
        exits = x;
        asleep = q;
        law = null;
        walk = new ArrayList<>();
        images.clear();
        works.clear();
        refused = 0;
        state = new State();
        for (int i = 0; i < t.size(); i++) {
            state.at[i] = t.get(i);
        }
        return s.size();
    }

    int law(int n) {
        take(n, 150);
        try {
            Value v = sum(0);
            if (look().kind != 'e') {
                throw new Fault(1, look().place);
            }
            law = v;
            return 1;
        } catch (Fault f) {
            return told(f);
        }
    }

    Value sum(int nested) {
        Value left = product(nested);
        while (is("+") || is("-")) {
            boolean plus = is("+");
            pos++;
            Value l = left;
            Value r = product(nested);
            left = plus ? (d, h, y) -> l.of(d, h, y) + r.of(d, h, y) : (d, h, y) -> l.of(d, h, y) - r.of(d, h, y);
        }
        return left;
    }

    Value product(int nested) {
        Value left = unit(nested);
        while (is("*") || is("/") || is("%")) {
            String op = look().text;
            pos++;
            Value l = left;
            Value r = unit(nested);
            left = (d, h, y) -> {
                BigInteger p = BigInteger.valueOf(l.of(d, h, y));
                BigInteger q = BigInteger.valueOf(r.of(d, h, y));
                if (op.equals("*")) {
                    return p.multiply(q).intValue();
                }
                if (q.signum() == 0) {
                    return 0;
                }
                return op.equals("/") ? p.divide(q).intValue() : p.remainder(q).intValue();
            };
        }
        return left;
    }

    Value unit(int nested) {
        Token t = look();
        if (t.kind == 'n') {
            int v = num(0, 999);
            return (d, h, y) -> v;
        }
        if (is("(")) {
            if (nested == 6) {
                throw new Fault(3, t.place);
            }
            pos++;
            Value v = sum(nested + 1);
            sign(")");
            return v;
        }
        word("plan", "hour", "day", "door", "from", "to", "sees", "used", "least", "most");
        switch (t.text) {
            case "plan":
                return (d, h, y) -> doors.get(d).f <= h && h <= doors.get(d).t ? 1 : 0;
            case "hour":
                return (d, h, y) -> h;
            case "day":
                return (d, h, y) -> y;
            case "door":
                return (d, h, y) -> d;
            case "from":
                return (d, h, y) -> doors.get(d).a;
            case "to":
                return (d, h, y) -> doors.get(d).b;
            case "sees":
                return (d, h, y) -> sees.get(doors.get(d).b);
            case "used":
                return (d, h, y) -> state.used[d];
            default:
                if (nested == 6) {
                    throw new Fault(3, t.place);
                }
                sign("[");
                Value l = sum(nested + 1);
                sign(",");
                Value r = sum(nested + 1);
                sign("]");
                if (t.text.equals("least")) {
                    return (d, h, y) -> Math.min(l.of(d, h, y), r.of(d, h, y));
                }
                return (d, h, y) -> Math.max(l.of(d, h, y), r.of(d, h, y));
        }
    }

    int work(int n) {
        take(n, 150);
        if (works.size() == 16) {
            return -20;
        }
        try {
            List<Step> steps = steps(0);
            State before = state.copy();
            done = 0;
            refused = 0;
            begun = 0;
            for (Step s : steps) {
                s.run();
            }
            works.add(before);
            return done;
        } catch (Fault f) {
            return told(f);
        }
    }

    List<Step> steps(int nested) {
        List<Step> found = new ArrayList<>();
        while (true) {
            if (nested == 0 && look().kind == 'e') {
                return found;
            }
            if (nested > 0 && is("]")) {
                pos++;
                return found;
            }
            Token w = word("go", "bar", "unbar", "hour", "again");
            switch (w.text) {
                case "go": {
                    int t = num(0, tours.size() - 1);
                    int d = num(0, doors.size() - 1);
                    found.add(() -> begin(() -> go(t, d)));
                    break;
                }
                case "bar": {
                    int d = num(0, doors.size() - 1);
                    found.add(() -> begin(() -> {
                        if (state.barred[d]) {
                            refused++;
                        } else {
                            state.barred[d] = true;
                            done++;
                        }
                    }));
                    break;
                }
                case "unbar": {
                    int d = num(0, doors.size() - 1);
                    found.add(() -> begin(() -> {
                        if (!state.barred[d]) {
                            refused++;
                        } else {
                            state.barred[d] = false;
                            done++;
                        }
                    }));
                    break;
                }
                case "hour":
                    found.add(() -> begin(() -> {
                        if (state.hour >= 960) {
                            refused++;
                        } else {
                            state.hour++;
                            done++;
                        }
                    }));
                    break;
                default: {
                    if (nested == 6) {
                        throw new Fault(3, w.place);
                    }
                    int times = num(0, 30);
                    sign("[");
                    List<Step> body = steps(nested + 1);
                    found.add(() -> begin(() -> {
                        for (int i = 0; i < times; i++) {
                            for (Step s : body) {
                                s.run();
                            }
                        }
                    }));
                    break;
                }
            }
            sign(";");
        }
    }

    void begin(Step s) {
        if (begun < 200) {
            begun++;
            s.run();
        }
    }

    void go(int t, int d) {
        if (state.at[t] != doors.get(d).a || !isOpen(d, state.hour)) {
            refused++;
            return;
        }
        state.at[t] = doors.get(d).b;
        state.used[d]++;
        for (int i = 0; i < tours.size(); i++) {
            if (i != t && state.at[i] == state.at[t]) {
                state.met++;
            }
        }
        done++;
    }

    int walk(int n) {
        take(n, 60);
        List<Integer> lines = new ArrayList<>();
        try {
            while (look().kind != 'e') {
                Token t = look();
                int l = num(0, 7);
                if (lines.size() == 12) {
                    throw new Fault(3, t.place);
                }
                lines.add(l);
                sign(";");
            }
        } catch (Fault f) {
            return told(f);
        }
        walk = lines;
        return lines.size();
    }

    int undo() {
        if (works.isEmpty()) {
            return -1;
        }
        state = works.remove(works.size() - 1).copy(); // an image may hold the same one
        refused = 0;
        return works.size();
    }

    int image() {
        if (images.size() == 3) {
            return -1;
        }
        Image i = new Image();
        i.state = state.copy();
        i.works = new ArrayList<>(works);
        images.add(i);
        return images.size();
    }

    int restore() {
        if (images.isEmpty()) {
            return -1;
        }
        Image i = images.remove(images.size() - 1);
        state = i.state;
        works = i.works;
        refused = 0;
        return images.size();
    }

    // refusals

    RuntimeException bad() {
        illegal++;
        return new IllegalArgumentException();
    }

    void range(int v, int least, int most) {
        if (v < least || v > most) {
            throw bad();
        }
    }

    void some(int v, int many) {
        if (v < 0 || v >= many) {
            missing++;
            throw new NoSuchElementException();
        }
    }

    void rooms(int... rooms) {
        for (int r : rooms) {
            some(r, sees.size());
        }
    }

    // what is asked

    boolean isOpen(int d, int hour) {
        if (state.barred[d]) {
            return false;
        }
        Door door = doors.get(d);
        if (law == null) {
            return hour % 24 >= door.f && hour % 24 <= door.t;
        }
        return law.of(d, hour % 24, hour / 24) > 0;
    }

    int bits(Iterable<Integer> rooms) {
        int b = 0;
        for (int r : rooms) {
            b |= 1 << r;
        }
        return b;
    }

    int told(int what) {
        range(what, 0, 9);
        int sum = 0;
        switch (what) {
            case 0:
                return sees.size();
            case 1:
                return doors.size();
            case 2:
                return tours.size();
            case 3:
                return state.hour;
            case 4:
                for (int d = 0; d < doors.size(); d++) {
                    sum += isOpen(d, state.hour) ? 1 : 0;
                }
                return sum;
            case 5:
                for (boolean b : state.barred) {
                    sum += b ? 1 : 0;
                }
                return sum;
            case 6:
                return Arrays.stream(state.used).sum();
            case 7:
                return state.met;
            case 8:
                return walk.size();
            default:
                return refused;
        }
    }

    int room(int room, int what) {
        rooms(room);
        range(what, 0, 5);
        int sum = 0;
        switch (what) {
            case 0:
                return sees.get(room);
            case 1:
                return exits.contains(room) ? 1 : 0;
            case 2:
                return asleep[room];
            case 3:
                return in(room);
            default:
                for (int d = 0; d < doors.size(); d++) {
                    int end = what == 4 ? doors.get(d).a : doors.get(d).b;
                    sum += end == room && isOpen(d, state.hour) ? 1 : 0;
                }
                return sum;
        }
    }

    int in(int room) {
        int sum = 0;
        for (int t = 0; t < tours.size(); t++) {
            sum += state.at[t] == room ? 1 : 0;
        }
        return sum;
    }

    int door(int door, int what) {
        some(door, doors.size());
        range(what, 0, 6);
        Door d = doors.get(door);
        int[] all = {d.a, d.b, d.f, d.t, state.barred[door] ? 1 : 0, isOpen(door, state.hour) ? 1 : 0, state.used[door]};
        return all[what];
    }

    int tour(int tour) {
        some(tour, tours.size());
        return state.at[tour];
    }

    boolean open(int door, int hour, int day) {
        some(door, doors.size());
        range(hour, 0, 23);
        range(day, 0, 99);
        return isOpen(door, day * 24 + hour);
    }

    /** Doors that are not barred: [door, a, b]. */
    List<int[]> plan() {
        List<int[]> found = new ArrayList<>();
        for (int d = 0; d < doors.size(); d++) {
            if (!state.barred[d]) {
                found.add(new int[] {d, doors.get(d).a, doors.get(d).b});
            }
        }
        return found;
    }

    Set<Integer> every() {
        Set<Integer> all = new TreeSet<>();
        for (int r = 0; r < sees.size(); r++) {
            all.add(r);
        }
        return all;
    }

    Set<Integer> then(Set<Integer> rooms) {
        Set<Integer> found = new TreeSet<>();
        for (int[] d : plan()) {
            if (rooms.contains(d[1])) {
                found.add(d[2]);
            }
        }
        return found;
    }

    Set<Integer> seeing(Set<Integer> rooms, int l) {
        Set<Integer> found = new TreeSet<>();
        for (int r : rooms) {
            if (sees.get(r) == l) {
                found.add(r);
            }
        }
        return found;
    }

    Set<Integer> standing() {
        Set<Integer> rooms = every();
        for (int i = 0; i < walk.size(); i++) {
            rooms = seeing(i == 0 ? rooms : then(rooms), walk.get(i));
        }
        return rooms;
    }

    int fits() {
        return bits(standing());
    }

    boolean ends(int room) {
        rooms(room);
        return standing().contains(room);
    }

    int knows() {
        Set<Set<Integer>> beliefs = new HashSet<>();
        beliefs.add(standing());
        for (int more = 0; more <= 6; more++) {
            boolean all = true;
            for (Set<Integer> b : beliefs) {
                all &= b.size() <= 1;
            }
            if (all) {
                return more;
            }
            Set<Set<Integer>> next = new HashSet<>();
            for (Set<Integer> b : beliefs) {
                Set<Integer> there = then(b);
                for (int l = 0; l < 8; l++) {
                    next.add(seeing(there, l));
                }
            }
            beliefs = next;
        }
        return -1;
    }

    /** Every way forward, as (room, wrong so far, first wrong). */
    int slips(int what) {
        range(what, 0, 1);
        Set<List<Integer>> ways = new HashSet<>();
        for (int i = 0; i < walk.size(); i++) {
            Set<List<Integer>> next = new HashSet<>();
            if (i == 0) {
                for (int r : every()) {
                    boolean ok = sees.get(r).equals(walk.get(0));
                    next.add(List.of(r, ok ? 0 : 1, ok ? -1 : 0));
                }
            }
            for (List<Integer> w : ways) {
                for (int r : then(Set.of(w.get(0)))) {
                    boolean ok = sees.get(r).equals(walk.get(i));
                    next.add(List.of(r, w.get(1) + (ok ? 0 : 1), w.get(2) == -1 && !ok ? i : w.get(2)));
                }
            }
            ways = next;
        }
        if (walk.isEmpty()) {
            return what == 0 ? 0 : -1;
        }
        int fewest = Integer.MAX_VALUE;
        int first = -1;
        for (List<Integer> w : ways) {
            if (w.get(1) < fewest) {
                fewest = w.get(1);
                first = w.get(2);
            } else if (w.get(1) == fewest) {
                first = Math.max(first, w.get(2));
            }
        }
        if (ways.isEmpty()) {
            return -1;
        }
        return what == 0 ? fewest : first;
    }

    List<Set<Integer>> byHours(int room) {
        List<Set<Integer>> found = new ArrayList<>();
        Set<Integer> rooms = new TreeSet<>(Set.of(room));
        found.add(rooms);
        for (int h = 0; h < 96; h++) {
            Set<Integer> next = new TreeSet<>(rooms);
            for (int d = 0; d < doors.size(); d++) {
                if (rooms.contains(doors.get(d).a) && isOpen(d, state.hour + h)) {
                    next.add(doors.get(d).b);
                }
            }
            rooms = next;
            found.add(rooms);
        }
        return found;
    }

    int soon(int room, int other) {
        rooms(room, other);
        List<Set<Integer>> all = byHours(room);
        for (int h = 0; h <= 96; h++) {
            if (all.get(h).contains(other)) {
                return h;
            }
        }
        return -1;
    }

    int within(int room, int n) {
        rooms(room);
        range(n, 0, 96);
        return bits(byHours(room).get(n));
    }

    int out(int room) {
        rooms(room);
        int best = -1;
        for (int x : exits) {
            int s = soon(room, x);
            if (s >= 0 && (best < 0 || s < best)) {
                best = s;
            }
        }
        return best;
    }

    /** Floyd and Warshall over the plan; far is 1000. */
    int[][] distances() {
        int n = sees.size();
        int[][] m = new int[n][n];
        for (int i = 0; i < n; i++) {
            Arrays.fill(m[i], 1000);
            m[i][i] = 0;
        }
        for (int[] d : plan()) {
            m[d[1]][d[2]] = 1;
        }
        for (int k = 0; k < n; k++) {
            for (int i = 0; i < n; i++) {
                for (int j = 0; j < n; j++) {
                    m[i][j] = Math.min(m[i][j], m[i][k] + m[k][j]);
                }
            }
        }
        return m;
    }

    int length(int room) {
        int best = 1000;
        for (int x : exits) {
            best = Math.min(best, distances()[x][room]);
        }
        return best >= 1000 ? -1 : best;
    }

    int string(int room) {
        rooms(room);
        return length(room);
    }

    int longest(int what) {
        range(what, 0, 1);
        int most = -1;
        int first = -1;
        for (int r : every()) {
            if (length(r) > most) {
                most = length(r);
                first = r;
            }
        }
        return what == 0 ? most : first;
    }

    int lost(int what) {
        range(what, 0, 2);
        int[][] m = distances();
        Set<Integer> from = every();
        Set<Integer> to = every();
        for (int r : every()) {
            for (int x : exits) {
                if (m[x][r] < 1000) {
                    from.remove(r);
                }
                if (m[r][x] < 1000) {
                    to.remove(r);
                }
            }
        }
        int[] all = {bits(from), bits(to), bits(from) & bits(to)};
        return all[what];
    }

    int wing(int room) {
        rooms(room);
        int[][] m = distances();
        Set<Integer> found = new TreeSet<>();
        for (int r : every()) {
            if (m[r][room] < 1000 && m[room][r] < 1000) {
                found.add(r);
            }
        }
        return bits(found);
    }

    /** Which rooms can be come to from which. */
    boolean[][] comings(boolean[][] m) {
        int n = m.length;
        boolean[][] c = new boolean[n][];
        for (int i = 0; i < n; i++) {
            c[i] = m[i].clone();
            c[i][i] = true;
        }
        for (int k = 0; k < n; k++) {
            for (int i = 0; i < n; i++) {
                for (int j = 0; j < n; j++) {
                    c[i][j] |= c[i][k] && c[k][j];
                }
            }
        }
        return c;
    }

    /** Tries sets of new doors, small ones first. */
    int cuts() {
        int n = sees.size();
        boolean[][] m = new boolean[n][n];
        for (int[] d : plan()) {
            m[d[1]][d[2]] = true;
        }
        for (int many = 0; many <= n; many++) {
            if (joinedBy(m, many)) {
                return many;
            }
        }
        return 99;
    }

    /** A door between rooms that are joined that way already is no help, so none such is tried. */
    boolean joinedBy(boolean[][] m, int many) {
        boolean[][] c = comings(m);
        if (many < doorsNeeded(c)) {
            return false;
        }
        boolean all = true;
        for (int a = 0; a < m.length; a++) {
            for (int b = 0; b < m.length; b++) {
                if (c[a][b]) {
                    continue;
                }
                all = false;
                m[a][b] = true;
                boolean ok = many > 0 && joinedBy(m, many - 1);
                m[a][b] = false;
                if (ok) {
                    return true;
                }
            }
        }
        return all;
    }

    /** Each wing that none comes to needs a new door to it, each that none leaves one from it; fewer can't do. */
    int doorsNeeded(boolean[][] c) {
        int to = 0;
        int from = 0;
        boolean one = true;
        for (int r = 0; r < c.length; r++) {
            boolean first = true;
            boolean comesOnlyFromWing = true;
            boolean goesOnlyToWing = true;
            for (int o = 0; o < c.length; o++) {
                one &= c[r][o];
                first &= !(o < r && c[o][r] && c[r][o]);
                comesOnlyFromWing &= !c[o][r] || c[r][o];
                goesOnlyToWing &= !c[r][o] || c[o][r];
            }
            to += first && comesOnlyFromWing ? 1 : 0;
            from += first && goesOnlyToWing ? 1 : 0;
        }
        return one ? 0 : Math.max(to, from);
    }

    /** Every order in which rooms can be come to first, by distances. */
    int[] rounds(int room) {
        int[] best = {1000, -1};
        order(distances(), room, 1 << room, 0, best);
        return best[0] >= 1000 ? new int[] {-1, -1} : best;
    }

    void order(int[][] m, int at, int been, int doors, int[] best) {
        if (doors > best[0] || doors >= 1000) {
            return;
        }
        if (Integer.bitCount(been) == m.length) {
            if (doors < best[0] || at < best[1]) {
                best[0] = doors;
                best[1] = at;
            }
            return;
        }
        for (int r = 0; r < m.length; r++) {
            if ((been >> r & 1) == 0) {
                order(m, r, been | 1 << r, doors + m[at][r], best);
            }
        }
    }

    int round(int room) {
        rooms(room);
        return rounds(room)[0];
    }

    int last(int room) {
        rooms(room);
        return rounds(room)[1];
    }

    int meet(int room, int other, int what) {
        rooms(room, other);
        range(what, 0, 1);
        Set<List<Integer>> pairs = new HashSet<>();
        pairs.add(List.of(room, other));
        for (int times = 0; times <= 100; times++) {
            int least = 99;
            for (List<Integer> p : pairs) {
                if (p.get(0).equals(p.get(1))) {
                    least = Math.min(least, p.get(0));
                }
            }
            if (least < 99) {
                return what == 0 ? times : least;
            }
            Set<List<Integer>> next = new HashSet<>();
            for (List<Integer> p : pairs) {
                Set<Integer> one = then(Set.of(p.get(0)));
                one.add(p.get(0));
                Set<Integer> two = then(Set.of(p.get(1)));
                two.add(p.get(1));
                for (int a : one) {
                    for (int b : two) {
                        next.add(List.of(a, b));
                    }
                }
            }
            pairs = next;
        }
        return -1;
    }

    static boolean comes(int[][] plan, int a, int b, int without) {
        int found = 1 << a;
        int before = 0;
        while (found != before) {
            before = found;
            for (int[] d : plan) {
                if ((without >> d[0] & 1) == 0 && (found >> d[1] & 1) != 0) {
                    found |= 1 << d[2];
                }
            }
        }
        return (found >> b & 1) != 0;
    }

    int parted(int room, int other, int what) {
        rooms(room, other);
        range(what, 0, 1);
        if (room == other) {
            return what == 0 ? -1 : 0;
        }
        for (int many = 0;; many++) {
            int set = partedBy(plan().toArray(new int[0][]), room, other, many, 0, 0);
            if (set >= 0) {
                return what == 0 ? many : set;
            }
        }
    }

    /** Every set of so many doors, in the order of their numbers. */
    static int partedBy(int[][] plan, int a, int b, int many, int from, int chosen) {
        if (many == 0) {
            return comes(plan, a, b, chosen) ? -1 : chosen;
        }
        for (int i = from; i <= plan.length - many; i++) {
            int set = partedBy(plan, a, b, many - 1, i + 1, chosen | 1 << plan[i][0]);
            if (set >= 0) {
                return set;
            }
        }
        return -1;
    }

    /** Every way without a room twice; numerators over sixteen to the ninth. */
    BigInteger likeliest(int at, int to, int been, BigInteger p) {
        if (at == to) {
            return p;
        }
        BigInteger best = BigInteger.ZERO;
        for (int[] d : plan()) {
            if (d[1] == at && (been >> d[2] & 1) == 0) {
                BigInteger q = p.multiply(BigInteger.valueOf(asleep[d[2]])).divide(BigInteger.valueOf(16));
                best = best.max(likeliest(d[2], to, been | 1 << d[2], q));
            }
        }
        return best;
    }

    long quiet(int room, int other, int part) {
        rooms(room, other);
        range(part, 0, 1);
        BigInteger one = BigInteger.valueOf(16).pow(12);
        BigInteger p = likeliest(room, other, 1 << room, one);
        BigInteger g = p.gcd(one);
        return (part == 0 ? p.divide(g) : one.divide(g)).longValueExact();
    }

    int way(int room, int other) {
        rooms(room, other);
        int w = distances()[room][other];
        return w >= 1000 ? -1 : w;
    }

    int next(int room, int other) {
        int w = way(room, other);
        if (w <= 0) {
            return -1;
        }
        for (int[] d : plan()) {
            if (d[1] == room && distances()[d[2]][other] == w - 1) {
                return d[0];
            }
        }
        return -2;
    }

    int loop(int room) {
        rooms(room);
        int best = 1000;
        for (int[] d : plan()) {
            if (d[1] == room) {
                best = Math.min(best, 1 + distances()[d[2]][room]);
            }
        }
        return best >= 1000 ? -1 : best;
    }

    int closed(int hour, int what) {
        range(hour, 0, 23);
        range(what, 0, 1);
        Set<Integer> found = every();
        for (int d = 0; d < doors.size(); d++) {
            if (isOpen(d, state.hour / 24 * 24 + hour)) {
                found.remove(what == 0 ? doors.get(d).a : doors.get(d).b);
            }
        }
        return bits(found);
    }

    int crowded(int what) {
        range(what, 0, 1);
        int most = 0;
        int first = -1;
        for (int r : every()) {
            if (in(r) > most) {
                most = in(r);
                first = r;
            }
        }
        return first < 0 ? -1 : what == 0 ? first : most;
    }

    int worn(int what) {
        range(what, 0, 1);
        int most = Arrays.stream(state.used).max().getAsInt();
        if (most == 0) {
            return -1;
        }
        for (int d = 0; d < 24; d++) {
            if (state.used[d] == most) {
                return what == 0 ? d : most;
            }
        }
        return -2;
    }

    /** The rooms one is in, one behind the other, by hour; how many doors at the end. */
    List<Integer> asleepBy(int seed, int room, int hours) {
        List<Integer> found = new ArrayList<>();
        found.add(room);
        int gone = 0;
        for (int h = 0; h < hours; h++) {
            List<Integer> open = new ArrayList<>();
            int here = found.get(found.size() - 1);
            for (int d = 0; d < doors.size(); d++) {
                if (doors.get(d).a == here && isOpen(d, state.hour + h)) {
                    open.add(d);
                }
            }
            if (!open.isEmpty()) {
                seed = (int) (seed * 1103515245L + 12345L);
                int bits = 0;
                for (int b = 16; b <= 30; b++) {
                    bits += (seed >> b & 1) << (b - 16);
                }
                here = doors.get(open.get(bits % open.size())).b;
                gone++;
            }
            found.add(here);
        }
        found.add(gone);
        return found;
    }

    int sleepwalk(int seed, int room, int hours, int what) {
        rooms(room);
        range(hours, 0, 96);
        range(what, 0, 2);
        List<Integer> f = asleepBy(seed, room, hours);
        int gone = f.remove(f.size() - 1);
        return what == 0 ? f.get(f.size() - 1) : what == 1 ? new HashSet<>(f).size() : gone;
    }

    int span(int seed, int many, int room, int hours, int other, int what) {
        rooms(room, other);
        range(many, 1, 40);
        range(hours, 0, 96);
        range(what, 0, 1);
        int sum = 0;
        for (int i = 0; i < many; i++) {
            List<Integer> f = asleepBy(seed + i, room, hours);
            f.remove(f.size() - 1);
            sum += (what == 0 ? f.get(f.size() - 1) == other : f.contains(other)) ? 1 : 0;
        }
        return sum;
    }

    int status(int what) {
        return what == 0 ? missing : what == 1 ? illegal : -1;
    }

    int count(int what) {
        return what == 0 ? images.size() : what == 1 ? tape.length() : what == 2 ? works.size() : -1;
    }
}
