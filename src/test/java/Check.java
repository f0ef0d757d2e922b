/** What the tests share: answers that are compared, exceptions that are due, programs that are told. */
final class Check {
    interface Call {
        void run();
    }

    static final Class<?> ARGUMENT = IllegalArgumentException.class;
    static final Class<?> STATE = IllegalStateException.class;
    static final Class<?> INDEX = IndexOutOfBoundsException.class;
    static final Class<?> UNSUPPORTED = UnsupportedOperationException.class;
    static final Class<?> NONE = java.util.NoSuchElementException.class;

    private static int wrong;
    private static int count;

    private Check() {
    }

    static void is(String what, double got, double due) {
        count++;
        if (got != due) {
            wrong++;
            System.out.println(what + " answered " + got + ", due is " + due);
        }
    }

    static void is(String what, long got, long due) {
        count++;
        if (got != due) {
            wrong++;
            System.out.println(what + " answered " + got + ", due is " + due);
        }
    }

    static void is(String what, boolean got, boolean due) {
        is(what, got ? 1L : 0L, due ? 1L : 0L);
    }

    static void fails(String what, Class<?> due, Call call) {
        count++;
        Class<?> got = null;
        try {
            call.run();
        } catch (RuntimeException e) {
            got = e.getClass();
        }
        if (got != due) {
            wrong++;
            System.out.println(what + " threw " + got + ", due is " + due);
        }
    }

    interface Take {
        void take(int number);
    }

    /** A number is in range from the lowest to the highest one, and refused on both sides of that. */
    static void range(String what, Class<?> due, int lowest, int highest, Take call) {
        for (int bad : new int[] {lowest - 1, highest + 1, Integer.MIN_VALUE, Integer.MAX_VALUE}) {
            fails(what + " of " + bad, due, () -> call.take(bad));
        }
        for (int good : new int[] {lowest, highest}) {
            fails(what + " of " + good, null, () -> call.take(good));
        }
    }

    /** Of all characters just these are taken. */
    static void letters(String what, String good, Take call) {
        for (char c = 0; c < 256; c++) {
            char letter = c;
            fails(what + " of " + (int) letter, good.indexOf(c) >= 0 ? null : ARGUMENT, () -> call.take(letter));
        }
    }

    /** An object with driven processes on machine 0, one for each user told; their threads are 0, 1 and so on. */
    static KernelWorks driven(int... users) {
        KernelWorks x = new KernelWorks();
        for (int user : users) {
            x.spawn(0, user, -1);
        }
        return x;
    }

    /** What R(1) is behind a row of thread 0 of machine 0, however long that has to wait. */
    static int row(KernelWorks x, int op, int b, int c) {
        return row(x, 0, 0, op, 1, b, c);
    }

    static int row(KernelWorks x, int machine, int thread, int op, int a, int b, int c) {
        int answer = x.does(machine, thread, op, a, b, c);
        for (int i = 0; i < 60 && answer == -1000; i++) {
            x.step(10);
            boolean told = x.thread(machine, thread, 's') == 1 && x.waits(machine, thread, 's') == 'h';
            answer = told ? a >= 0 && a < 8 ? x.register(machine, thread, a) : 0 : -1000;
        }
        return answer;
    }

    /** What a thread waits for: the sign and the number; "ready" or "ended", or "none" if it is gone. */
    static String waits(KernelWorks x, int machine, int thread) {
        try {
            int state = x.thread(machine, thread, 's');
            return state == 0 ? "ready" : state == 2 ? "ended"
                : (char) x.waits(machine, thread, 's') + "" + x.waits(machine, thread, 'n');
        } catch (IndexOutOfBoundsException e) {
            return "none";
        }
    }

    /** A path of names, the first one highest. */
    static int path(int... names) {
        int path = 0;
        for (int n : names) {
            path = path * 27 + n;
        }
        return path;
    }

    /** The faults of the disc of machine 0, each with its number. */
    static String faults(KernelWorks x) {
        StringBuilder text = new StringBuilder();
        for (int i = 0; i < x.faults(0); i++) {
            text.append((char) x.fault(0, i, false)).append(x.fault(0, i, true)).append(' ');
        }
        return text.toString().trim();
    }

    /** Tells a program, row for row: the operation, a, b, c. */
    static void program(KernelWorks x, int program, int... rows) {
        for (int i = 0; i < rows.length; i += 4) {
            x.rows(program, i / 4, rows[i], rows[i + 1], rows[i + 2], rows[i + 3], -1, 0, 0, 0);
        }
    }

    /** Types a text at a terminal. */
    static int type(KernelWorks x, int machine, String text) {
        int answer = 0;
        for (int from = 0; from < text.length(); from += 40) {
            long[] keys = new long[5];
            for (int i = 0; i < 40; i++) {
                keys[i / 8] = keys[i / 8] << 8 | (from + i < text.length() ? text.charAt(from + i) : 0);
            }
            answer = x.type(machine, keys[0], keys[1], keys[2], keys[3], keys[4]);
        }
        return answer;
    }

    /** All that was shown, up to 200 cells. */
    static String shown(KernelWorks x, int machine) {
        StringBuilder text = new StringBuilder();
        for (int i = 0; i < 200; i++) {
            try {
                text.append((char) x.shown(machine, i));
            } catch (java.util.NoSuchElementException e) {
                break;
            }
        }
        return text.toString();
    }

    static void text(String what, String got, String due) {
        count++;
        if (!got.equals(due)) {
            wrong++;
            System.out.println(what + " told '" + got.replace("\n", "\\n") + "', due is '"
                + due.replace("\n", "\\n") + "'");
        }
    }

    /** The signs and numbers of the events that are told, from one on. */
    static String events(KernelWorks x, int from) {
        StringBuilder text = new StringBuilder();
        for (int i = from; i < x.events(); i++) {
            text.append((char) x.event(i, 's')).append(x.event(i, 'n')).append(' ');
        }
        return text.toString().trim();
    }

    static void end(String name) {
        System.out.println(name + ": " + count + " answers, " + wrong + " wrong");
        if (wrong > 0) {
            System.exit(1);
        }
    }
}
