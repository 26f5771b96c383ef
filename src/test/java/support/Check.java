import java.util.NoSuchElementException;

/** What the tests share: texts on the tape, answers that are due, exceptions that are due. */
final class Check {
    private static int asked = 0;
    private static int wrong = 0;

    private Check() {
    }

    static void same(String what, long got, long due) {
        asked++;
        if (got != due) {
            wrong++;
            System.out.println(what + " answered " + got + ", due is " + due);
        }
    }

    static void holds(String what, boolean got) {
        same(what, got ? 1 : 0, 1);
    }

    static void missing(String what, Runnable call) {
        same(what + " throws (1 NoSuchElementException, 2 IllegalArgumentException)", thrown(call), 1);
    }

    static void illegal(String what, Runnable call) {
        same(what + " throws (1 NoSuchElementException, 2 IllegalArgumentException)", thrown(call), 2);
    }

    static void fine(String what, Runnable call) {
        same(what + " throws (1 NoSuchElementException, 2 IllegalArgumentException)", thrown(call), 0);
    }

    private static int thrown(Runnable call) {
        try {
            call.run();
            return 0;
        } catch (NoSuchElementException e) {
            return 1;
        } catch (IllegalArgumentException e) {
            return 2;
        }
    }

    /** Puts a text on the tape, zeros behind it. */
    static void load(LostMuseum x, String text) {
        for (int i = 0; i < text.length(); i += 20) {
            x.feed(number(text, i), number(text, i + 4), number(text, i + 8), number(text, i + 12), number(text, i + 16));
        }
    }

    static int number(String text, int at) {
        int n = 0;
        for (int i = at; i < at + 4; i++) {
            n = n << 8 | (i < text.length() ? text.charAt(i) & 255 : 0);
        }
        return n;
    }

    static int museum(LostMuseum x, String text) {
        load(x, text);
        return x.museum(text.length());
    }

    static int law(LostMuseum x, String text) {
        load(x, text);
        return x.law(text.length());
    }

    static int work(LostMuseum x, String text) {
        load(x, text);
        return x.work(text.length());
    }

    static int walk(LostMuseum x, String text) {
        load(x, text);
        return x.walk(text.length());
    }

    static LostMuseum of(String museum) {
        LostMuseum x = new LostMuseum();
        int rooms = museum(x, museum);
        if (rooms < 0) {
            same("museum(" + museum + ") at " + x.fault(), rooms, 0);
        }
        return x;
    }

    static void end() {
        System.out.println(asked + " answers, " + wrong + " of them not as due");
        if (wrong != 0 || asked == 0) {
            System.exit(1);
        }
    }
}
