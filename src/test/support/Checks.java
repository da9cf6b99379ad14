/** What the tests share: channels drawn as text, comparing, and the exit code. */
abstract class Checks {
    private static int wrong = 0;

    interface Call {
        Object answer();
    }

    interface Change {
        void on(ChannelRouter x);
    }

    /** Runs the test of one sentence of the document, and names the sentence if it is broken. */
    static void test(String sentence, Runnable body) {
        int before = wrong;
        try {
            body.run();
        } catch (RuntimeException | Error e) {
            wrong++;
            System.out.println("thrown: " + e + " at " + e.getStackTrace()[0]);
        }
        if (wrong > before) {
            System.out.println("  broken: " + sentence);
        }
    }

    static void end() {
        if (wrong > 0) {
            System.exit(1);
        }
    }

    // ---- channels

    /** A channel with the pins of two rows of digits; a dot is no pin. */
    static ChannelRouter channel(String top, String bottom) {
        ChannelRouter x = new ChannelRouter();
        for (int column = 0; column < top.length(); column++) {
            x.pin(column, true, netOf(top.charAt(column)));
            x.pin(column, false, netOf(bottom.charAt(column)));
        }
        return x;
    }

    private static int netOf(char c) {
        return c == '.' ? 0 : c - '0';
    }

    // ---- many answers at once

    static void segments(String what, ChannelRouter x, String... due) {
        same(what + ": segments", due.length, x.count(1));
        for (int i = 0; i < due.length && i < x.count(1); i++) {
            same(what + ": segment " + i, due[i], segment(x, i));
        }
    }

    static String segment(ChannelRouter x, int i) {
        return x.segment(i, 0) + " " + x.segment(i, 1) + " " + x.segment(i, 2) + " " + x.segment(i, 3);
    }

    static void ring(String what, ChannelRouter x, int... due) {
        for (int k = 0; k < due.length; k++) {
            same(what + ": ring " + k, due[k], x.ring(k));
        }
        same(what + ": ring ends", -1, x.ring(due.length));
        same(what + ": ring -1", -1, x.ring(-1));
    }

    static void level(String what, ChannelRouter x, int track, int... due) {
        for (int column = 0; column < due.length; column++) {
            same(what + ": column " + column, due[column], x.level(track, column));
        }
    }

    static void upright(String what, ChannelRouter x, int column, int... due) {
        same(what + ": rows", due.length, x.count(0) + 2);
        for (int row = -1; row < due.length - 1; row++) {
            same(what + ": row " + row, due[row + 1], x.upright(column, row));
        }
    }

    static void nets(String what, ChannelRouter x, int net, int... due) {
        for (int k = 0; k < due.length; k++) {
            same(what + ": net(" + net + ", " + k + ")", due[k], x.net(net, k));
        }
    }

    static void counts(String what, ChannelRouter x, int... due) {
        for (int k = 0; k < due.length; k++) {
            same(what + ": count " + k, due[k], x.count(k));
        }
    }

    static void nothingIsLaid(String what, ChannelRouter x) {
        same(what + ": tracks", 0, x.count(0));
        same(what + ": segments", 0, x.count(1));
        same(what + ": vias", 0, x.count(2));
        same(what + ": laid", 0, x.count(5));
        same(what + ": used", 0f, x.used());
        outOfBounds(what + ": segment", () -> x.segment(0, 0));
        outOfBounds(what + ": level", () -> x.level(0, 0));
        outOfBounds(what + ": via", () -> x.via(0, 0));
        outOfBounds(what + ": upright top", () -> x.upright(0, -1));
        outOfBounds(what + ": upright row 0", () -> x.upright(0, 0));
    }

    /**
     * All that an object tells of its pins and of what is laid, ring() and count(3), count(4) too. The pins
     * are read last, since that takes away what is laid: the object is used up.
     */
    static String allOf(ChannelRouter x) {
        StringBuilder all = new StringBuilder();
        for (int what = 0; what < 6; what++) {
            all.append(x.count(what)).append(' ');
        }
        all.append(x.used()).append(' ').append(x.density()).append(' ');
        all.append(x.pairs(false)).append(' ').append(x.pairs(true)).append(" ring");
        for (int k = 0; k < 4; k++) {
            all.append(' ').append(x.ring(k));
        }
        wiringOf(x, all);
        for (int column = 0; column < 20; column++) {
            all.append(x.pin(column, true, 0)).append(x.pin(column, false, 0)).append(' ');
        }
        return all.toString();
    }

    private static void wiringOf(ChannelRouter x, StringBuilder all) {
        for (int i = 0; i < x.count(1); i++) {
            all.append(" segment ").append(segment(x, i));
        }
        int tracks = x.count(0);
        for (int column = 0; column < 20; column++) {
            all.append(" column ");
            for (int row = x.count(5) == 1 ? -1 : tracks + 1; row <= tracks; row++) {
                all.append(x.upright(column, row));
            }
            for (int track = 0; track < tracks; track++) {
                all.append(x.level(track, column)).append(x.via(track, column) ? 'v' : ' ');
            }
        }
    }

    // ---- single answers

    static void same(String what, Object due, Object got) {
        if (!due.equals(got)) {
            wrong++;
            System.out.println(caller() + ": " + what + ": due is " + due + ", got " + got);
        }
    }

    private static String caller() {
        for (StackTraceElement e : new Throwable().getStackTrace()) {
            if (!e.getClassName().equals("Checks")) {
                return e.getMethodName();
            }
        }
        return "";
    }

    static void outOfBounds(String what, Call call) {
        throwing(what, IndexOutOfBoundsException.class, call);
    }

    static void illegalArgument(String what, Call call) {
        throwing(what, IllegalArgumentException.class, call);
    }

    static void illegalState(String what, Call call) {
        throwing(what, IllegalStateException.class, call);
    }

    private static void throwing(String what, Class<?> due, Call call) {
        Object got;
        try {
            got = call.answer();
        } catch (RuntimeException e) {
            got = e.getClass();
        }
        same(what, due, got);
    }
}
