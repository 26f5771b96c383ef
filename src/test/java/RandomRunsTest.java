import java.util.NoSuchElementException;
import java.util.Random;

/** Random runs of calls, each answer held against the plain model in support/Naive.java. */
public final class RandomRunsTest {
    private static final int RUNS = 1500;
    private static final int CALLS = 120;
    /** Nothing is promised of an object's 513th call; a text and its question take 32 calls at most. */
    private static final int MOST_CALLS = 512 - 32;
    private static final String[] NAMES = {
        "museum", "law", "work", "walk", "fault", "undo", "told", "room", "door", "tour", "open", "fits", "knows",
        "slips", "ends", "soon", "within", "out", "string", "longest", "lost", "cuts", "wing", "round", "last",
        "meet", "parted", "quiet", "way", "next", "loop", "closed", "crowded", "worn", "sleepwalk", "span",
        "image", "restore", "status", "count"};

    private static Random random;
    private static LostMuseum x;
    private static Naive y;
    private static int calls;

    private interface Call {
        long answer();
    }

    private static String outcome(Call call) {
        try {
            return Long.toString(call.answer());
        } catch (NoSuchElementException e) {
            return "throws NoSuchElementException";
        } catch (IllegalArgumentException e) {
            return "throws IllegalArgumentException";
        }
    }

    public static void main(String[] args) {
        int runs = args.length > 0 ? Integer.parseInt(args[0]) : RUNS;
        int first = args.length > 1 ? Integer.parseInt(args[1]) : 0;
        for (int run = first; run < first + runs; run++) {
            random = new Random(run);
            x = new LostMuseum();
            y = new Naive();
            calls = 0;
            for (int i = 0; i < CALLS && calls <= MOST_CALLS; i++) {
                String name = i == 0 ? "museum" : NAMES[pickName()];
                if (!same(run, i, name)) {
                    break;
                }
            }
        }
        Check.end();
    }

    private static int pickName() {
        int n = random.nextInt(NAMES.length + 6);
        // Texts come oftener than one in forty; museums not.
        return n >= NAMES.length ? 1 + (n - NAMES.length) % 3 : n == 0 && random.nextInt(4) != 0 ? 6 : n;
    }

    private static boolean same(int run, int i, String name) {
        String text = "";
        if (name.equals("museum") || name.equals("law") || name.equals("work") || name.equals("walk")) {
            text = textFor(name);
            for (int at = 0; at < text.length(); at += 20) {
                int[] n = new int[5];
                for (int k = 0; k < 5; k++) {
                    n[k] = Check.number(text, at + 4 * k);
                }
                calls++;
                int got = x.feed(n[0], n[1], n[2], n[3], n[4]);
                int due = y.feed(n[0], n[1], n[2], n[3], n[4]);
                Check.same("run " + run + " call " + i + " feed", got, due);
            }
        }
        int[] a = argumentsFor(name, text.length());
        String got = outcome(() -> ask(name, a));
        String due = outcome(() -> askNaive(name, a));
        int fault = x.fault();
        calls += 2;
        boolean ok = got.equals(due) && fault == y.faultPlace;
        Check.same("run " + run + " call " + i + " " + name + java.util.Arrays.toString(a) + " '" + text + "' answered "
            + got + " due " + due + " (faults " + fault + ", " + y.faultPlace + ")", ok ? 1 : 0, 1);
        return ok;
    }

    // texts

    private static String textFor(String name) {
        String text;
        switch (name) {
            case "museum":
                text = museumText();
                break;
            case "law":
                text = sum(random.nextInt(random.nextInt(4) == 0 ? 8 : 4));
                break;
            case "work":
                text = steps(random.nextInt(random.nextInt(4) == 0 ? 8 : 3));
                break;
            default:
                text = walkText();
                break;
        }
        int changes = random.nextInt(4) == 0 ? 1 + random.nextInt(2) : 0;
        for (int i = 0; i < changes; i++) {
            text = changed(text);
        }
        return text.length() > 600 ? text.substring(0, 600) : text;
    }

    private static String changed(String text) {
        int at = random.nextInt(text.length() + 1);
        String some = "0123456789;;[](),+-*/% abdehioruwxA{\u00e9\u0000";
        char c = some.charAt(random.nextInt(some.length()));
        switch (random.nextInt(4)) {
            case 0:
                return text.substring(0, at) + c + text.substring(at);
            case 1:
                return at < text.length() ? text.substring(0, at) + text.substring(at + 1) : text;
            case 2:
                return at < text.length() ? text.substring(0, at) + c + text.substring(at + 1) : text + c;
            default:
                return text.substring(0, at);
        }
    }

    private static String gap(boolean needed) {
        int n = random.nextInt(12);
        return n == 0 ? "  " : n == 1 && !needed ? " " : needed ? " " : "";
    }

    private static String museumText() {
        StringBuilder b = new StringBuilder();
        if (random.nextInt(20) == 0) {
            return fullMuseumText();
        }
        int rooms = random.nextInt(12) == 0 ? random.nextInt(12) : 1 + random.nextInt(6);
        int sights = 1 + random.nextInt(8);
        for (int r = 0; r < rooms; r++) {
            b.append("room").append(gap(true)).append(random.nextInt(sights)).append(gap(false)).append(';');
        }
        if (rooms == 0) {
            return b.toString();
        }
        int doors = rooms < 2 ? 0 : random.nextInt(random.nextInt(12) == 0 ? 27 : 14);
        for (int d = 0; d < doors; d++) {
            int from = random.nextInt(rooms);
            int to = (from + 1 + random.nextInt(rooms - 1)) % rooms;
            int f = random.nextInt(3) == 0 ? 0 : random.nextInt(24);
            int t = random.nextInt(3) == 0 ? 23 : f + random.nextInt(24 - f);
            b.append(gap(false)).append("door ").append(from).append(gap(true)).append(to).append(' ').append(f);
            b.append(gap(true)).append(t).append(gap(false)).append(';');
        }
        int more = random.nextInt(random.nextInt(20) == 0 ? 60 : 10);
        int tours = 0;
        for (int i = 0; i < more; i++) {
            int r = random.nextInt(rooms);
            int kind = random.nextInt(3);
            if (kind == 0 || kind == 1 && tours >= 6 && random.nextInt(8) != 0) {
                b.append("exit").append(gap(false)).append(r).append(';');
            } else if (kind == 1) {
                tours++;
                b.append("tour ").append(r).append(';').append(gap(false));
            } else {
                b.append("warder ").append(r).append(' ').append(random.nextInt(17)).append(';');
            }
        }
        return b.toString();
    }

    /** As many rooms, doors and tours as there may be. */
    private static String fullMuseumText() {
        StringBuilder b = new StringBuilder();
        for (int r = 0; r < 10; r++) {
            b.append("room").append(random.nextInt(4)).append(';');
        }
        boolean ring = random.nextBoolean();
        for (int d = 0; d < 24; d++) {
            int from = ring && d < 10 ? d : random.nextInt(10);
            int to = ring && d < 10 ? (d + 1) % 10 : (from + 1 + random.nextInt(9)) % 10;
            int f = random.nextInt(24);
            b.append("door").append(from).append(' ').append(to).append(' ').append(f).append(' ').append(23).append(';');
        }
        for (int t = 0; t < 6; t++) {
            b.append("tour").append(random.nextInt(10)).append(';');
        }
        return b.append("exit 9;warder 9 3;warder 5 11;").toString();
    }

    private static String sum(int deep) {
        StringBuilder b = new StringBuilder(product(deep));
        int more = random.nextInt(3);
        for (int i = 0; i < more; i++) {
            b.append(gap(false)).append(random.nextBoolean() ? '+' : '-').append(gap(false)).append(product(deep));
        }
        return b.toString();
    }

    private static String product(int deep) {
        StringBuilder b = new StringBuilder(unit(deep));
        int more = random.nextInt(5) / 3;
        for (int i = 0; i < more; i++) {
            b.append(gap(false)).append("*/%".charAt(random.nextInt(3))).append(gap(false)).append(unit(deep));
        }
        return b.toString();
    }

    private static String unit(int deep) {
        String[] words = {"plan", "hour", "day", "door", "from", "to", "sees", "used", "plan", "hour"};
        int n = random.nextInt(10);
        if (deep > 0 && n < 5) {
            if (n < 2) {
                return "(" + gap(false) + sum(deep - 1) + gap(false) + ")";
            }
            String word = n < 4 ? "least" : "most";
            return word + gap(false) + "[" + sum(deep - 1) + gap(false) + "," + gap(false) + unit(deep - 1) + "]";
        }
        if (n < 7) {
            return words[random.nextInt(words.length)];
        }
        return Integer.toString(random.nextInt(random.nextInt(3) == 0 ? 1002 : 20));
    }

    private static String steps(int deep) {
        StringBuilder b = new StringBuilder();
        int many = random.nextInt(8);
        for (int i = 0; i < many && b.length() < 130; i++) {
            int n = random.nextInt(10);
            int d = random.nextInt(Math.max(1, y.doors.size()));
            b.append(gap(false));
            if (n < 4) {
                int t = random.nextInt(Math.max(1, y.tours.size()));
                b.append("go ").append(t).append(gap(true)).append(goFrom(t, d));
            } else if (n == 4) {
                b.append("bar").append(gap(false)).append(d);
            } else if (n == 5) {
                b.append("unbar ").append(d);
            } else if (n < 8 || deep == 0) {
                b.append("hour");
            } else {
                b.append("again ").append(random.nextInt(random.nextInt(3) == 0 ? 32 : 5)).append(gap(false));
                b.append('[').append(steps(deep - 1)).append(gap(false)).append(']');
            }
            b.append(gap(false)).append(';');
        }
        return b.toString();
    }

    /** Mostly a door that leads from the room in which the tour stands, so that tours get about. */
    private static int goFrom(int t, int d) {
        for (int i = 0; i < y.doors.size() && t < y.tours.size(); i++) {
            int e = (d + i) % y.doors.size();
            if (y.doors.get(e).a == y.state.at[t] && random.nextInt(5) != 0) {
                return e;
            }
        }
        return d;
    }

    private static String walkText() {
        StringBuilder b = new StringBuilder();
        int many = random.nextInt(random.nextInt(6) == 0 ? 15 : 6);
        for (int i = 0; i < many; i++) {
            int l = y.sees.isEmpty() || random.nextInt(6) == 0
                ? random.nextInt(8) : y.sees.get(random.nextInt(y.sees.size()));
            b.append(gap(false)).append(l).append(gap(false)).append(';');
        }
        return b.toString();
    }

    // arguments

    private static int[] argumentsFor(String name, int length) {
        switch (name) {
            case "museum": case "law": case "work": case "walk":
                return new int[] {random.nextInt(15) == 0 ? random.nextInt(700) - 20 : length};
            case "told":
                return new int[] {what(9)};
            case "room":
                return new int[] {room(), what(5)};
            case "door":
                return new int[] {some(y.doors.size()), what(6)};
            case "tour":
                return new int[] {some(y.tours.size())};
            case "open":
                return new int[] {some(y.doors.size()), what(23), what(99)};
            case "slips": case "longest": case "crowded": case "worn":
                return new int[] {what(1)};
            case "ends": case "out": case "string": case "wing": case "round": case "last": case "loop":
                return new int[] {room()};
            case "soon": case "way": case "next":
                return new int[] {room(), room()};
            case "within":
                return new int[] {room(), what(96)};
            case "lost": case "status": case "count":
                return new int[] {what(2)};
            case "meet": case "parted": case "quiet":
                return new int[] {room(), room(), what(1)};
            case "closed":
                return new int[] {what(23), what(1)};
            case "sleepwalk":
                return new int[] {random.nextInt(), room(), what(96), what(2)};
            case "span":
                return new int[] {random.nextInt(), 1 + what(39), room(), what(96), room(), what(1)};
            default:
                return new int[0];
        }
    }

    private static int what(int most) {
        int n = random.nextInt(25);
        return n == 0 ? -1 : n == 1 ? most + 1 : n == 2 ? most : n == 3 ? random.nextInt() : random.nextInt(most + 1);
    }

    private static int room() {
        return some(y.sees.size());
    }

    private static int some(int many) {
        int n = random.nextInt(40);
        return n == 0 || many == 0 ? -1 + random.nextInt(2) * (many + 1) : n == 1 ? random.nextInt() : random.nextInt(many);
    }

    private static long ask(String name, int[] a) {
        switch (name) {
            case "museum": return x.museum(a[0]);
            case "law": return x.law(a[0]);
            case "work": return x.work(a[0]);
            case "walk": return x.walk(a[0]);
            case "fault": return x.fault();
            case "undo": return x.undo();
            case "told": return x.told(a[0]);
            case "room": return x.room(a[0], a[1]);
            case "door": return x.door(a[0], a[1]);
            case "tour": return x.tour(a[0]);
            case "open": return x.open(a[0], a[1], a[2]) ? 1 : 0;
            case "fits": return x.fits();
            case "knows": return x.knows();
            case "slips": return x.slips(a[0]);
            case "ends": return x.ends(a[0]) ? 1 : 0;
            case "soon": return x.soon(a[0], a[1]);
            case "within": return x.within(a[0], a[1]);
            case "out": return x.out(a[0]);
            case "string": return x.string(a[0]);
            case "longest": return x.longest(a[0]);
            case "lost": return x.lost(a[0]);
            case "cuts": return x.cuts();
            case "wing": return x.wing(a[0]);
            case "round": return x.round(a[0]);
            case "last": return x.last(a[0]);
            case "meet": return x.meet(a[0], a[1], a[2]);
            case "parted": return x.parted(a[0], a[1], a[2]);
            case "quiet": return x.quiet(a[0], a[1], a[2]);
            case "way": return x.way(a[0], a[1]);
            case "next": return x.next(a[0], a[1]);
            case "loop": return x.loop(a[0]);
            case "closed": return x.closed(a[0], a[1]);
            case "crowded": return x.crowded(a[0]);
            case "worn": return x.worn(a[0]);
            case "sleepwalk": return x.sleepwalk(a[0], a[1], a[2], a[3]);
            case "span": return x.span(a[0], a[1], a[2], a[3], a[4], a[5]);
            case "image": return x.image();
            case "restore": return x.restore();
            case "status": return x.status(a[0]);
            default: return x.count(a[0]);
        }
    }

    private static long askNaive(String name, int[] a) {
        switch (name) {
            case "museum": return y.museum(a[0]);
            case "law": return y.law(a[0]);
            case "work": return y.work(a[0]);
            case "walk": return y.walk(a[0]);
            case "fault": return y.faultPlace;
            case "undo": return y.undo();
            case "told": return y.told(a[0]);
            case "room": return y.room(a[0], a[1]);
            case "door": return y.door(a[0], a[1]);
            case "tour": return y.tour(a[0]);
            case "open": return y.open(a[0], a[1], a[2]) ? 1 : 0;
            case "fits": return y.fits();
            case "knows": return y.knows();
            case "slips": return y.slips(a[0]);
            case "ends": return y.ends(a[0]) ? 1 : 0;
            case "soon": return y.soon(a[0], a[1]);
            case "within": return y.within(a[0], a[1]);
            case "out": return y.out(a[0]);
            case "string": return y.string(a[0]);
            case "longest": return y.longest(a[0]);
            case "lost": return y.lost(a[0]);
            case "cuts": return y.cuts();
            case "wing": return y.wing(a[0]);
            case "round": return y.round(a[0]);
            case "last": return y.last(a[0]);
            case "meet": return y.meet(a[0], a[1], a[2]);
            case "parted": return y.parted(a[0], a[1], a[2]);
            case "quiet": return y.quiet(a[0], a[1], a[2]);
            case "way": return y.way(a[0], a[1]);
            case "next": return y.next(a[0], a[1]);
            case "loop": return y.loop(a[0]);
            case "closed": return y.closed(a[0], a[1]);
            case "crowded": return y.crowded(a[0]);
            case "worn": return y.worn(a[0]);
            case "sleepwalk": return y.sleepwalk(a[0], a[1], a[2], a[3]);
            case "span": return y.span(a[0], a[1], a[2], a[3], a[4], a[5]);
            case "image": return y.image();
            case "restore": return y.restore();
            case "status": return y.status(a[0]);
            default: return y.count(a[0]);
        }
    }
}
