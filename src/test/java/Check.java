/** What the tests share: answers that are compared, exceptions that are due, programs that are told. */
final class Check {
    interface Call {
        void run();
    }

    static final Class<?> ARGUMENT = IllegalArgumentException.class;
    static final Class<?> STATE = IllegalStateException.class;
    static final Class<?> INDEX = IndexOutOfBoundsException.class;
    static final Class<?> UNSUPPORTED = UnsupportedOperationException.class;
    static final Class<?> NONE = java.util.NoSuchElementException.class;

    private static int wrong;
    private static int count;

    private Check() {
    }

    static void is(String what, double got, double due) {
        count++;
        if (got != due) {
            wrong++;
            System.out.println(what + " answered " + got + ", due is " + due);
        }
    }

    static void is(String what, long got, long due) {
        count++;
        if (got != due) {
            wrong++;
            System.out.println(what + " answered " + got + ", due is " + due);
        }
    }

    static void is(String what, boolean got, boolean due) {
        is(what, got ? 1L : 0L, due ? 1L : 0L);
    }

    static void fails(String what, Class<?> due, Call call) {
        count++;
        Class<?> got = null;
        try {
            call.run();
        } catch (RuntimeException e) {
            got = e.getClass();
        }
        if (got != due) {
            wrong++;
            System.out.println(what + " threw " + got + ", due is " + due);
        }
    }

    /** Tells a program, row for row: the operation, a, b, c. */
    static void program(KernelWorks x, int program, int... rows) {
        for (int i = 0; i < rows.length; i += 4) {
            x.rows(program, i / 4, rows[i], rows[i + 1], rows[i + 2], rows[i + 3], -1, 0, 0, 0);
        }
    }

    /** Types a text at a terminal. */
    static int type(KernelWorks x, int machine, String text) {
        int answer = 0;
        for (int from = 0; from < text.length(); from += 40) {
            long[] keys = new long[5];
            for (int i = 0; i < 40; i++) {
                keys[i / 8] = keys[i / 8] << 8 | (from + i < text.length() ? text.charAt(from + i) : 0);
            }
            answer = x.type(machine, keys[0], keys[1], keys[2], keys[3], keys[4]);
        }
        return answer;
    }

    /** All that was shown, up to 200 cells. */
    static String shown(KernelWorks x, int machine) {
        StringBuilder text = new StringBuilder();
        for (int i = 0; i < 200; i++) {
            try {
                text.append((char) x.shown(machine, i));
            } catch (java.util.NoSuchElementException e) {
                break;
            }
        }
        return text.toString();
    }

    static void text(String what, String got, String due) {
        count++;
        if (!got.equals(due)) {
            wrong++;
            System.out.println(what + " told '" + got.replace("\n", "\\n") + "', due is '"
                + due.replace("\n", "\\n") + "'");
        }
    }

    /** The signs and numbers of the events that are told, from one on. */
    static String events(KernelWorks x, int from) {
        StringBuilder text = new StringBuilder();
        for (int i = from; i < x.events(); i++) {
            text.append((char) x.event(i, 's')).append(x.event(i, 'n')).append(' ');
        }
        return text.toString().trim();
    }

    static void end(String name) {
        System.out.println(name + ": " + count + " answers, " + wrong + " wrong");
        if (wrong > 0) {
            System.exit(1);
        }
    }
}
