import java.util.NoSuchElementException;

/** Counts wrong answers of one test program, prints them, and ends the program with 1 if there was one. */
final class Check {
    private final String name;
    private int asked;
    private int wrong;

    Check(String name) {
        this.name = name;
    }

    void same(String what, long got, long due) {
        asked++;
        if (got != due) {
            wrong++;
            System.out.println(name + ": " + what + " answered " + got + ", due is " + due);
        }
    }

    void yes(String what, boolean got) {
        same(what, got ? 1 : 0, 1);
    }

    void no(String what, boolean got) {
        same(what, got ? 1 : 0, 0);
    }

    void lookThrows(ShoreDay day, int group, int what) {
        boolean thrown = false;
        try {
            day.look(group, what);
        } catch (NoSuchElementException e) {
            thrown = true;
        }
        yes("look(" + group + ", " + what + ") throws", thrown);
    }

    /** Feeds a text of any length, eight signs a long; bytes that are left over are 0 and count for nothing. */
    static int feed(ShoreDay day, String text) {
        int length = day.count(9);
        for (int i = 0; i < text.length(); i += 24) {
            length = day.feed(eight(text, i), eight(text, i + 8), eight(text, i + 16));
        }
        return length;
    }

    static int read(ShoreDay day, String text) {
        feed(day, text);
        return day.text();
    }

    private static long eight(String text, int from) {
        long bytes = 0;
        for (int i = from; i < from + 8; i++) {
            bytes = bytes << 8 | (i < text.length() ? text.charAt(i) : 0);
        }
        return bytes;
    }

    void end() {
        System.out.println(name + ": " + asked + " answers, " + wrong + " wrong");
        if (wrong > 0) {
            System.exit(1);
        }
    }
}
