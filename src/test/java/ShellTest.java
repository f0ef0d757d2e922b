/** Promises 25 (status) and 26, with part 9 of the terms: the shell and its tools. */
public final class ShellTest {
    private static KernelWorks x;
    private static int seen;

    private static void start() {
        x = new KernelWorks();
        x.login(0, 0);
        seen = 0;
    }

    /** Types a line, lets it be done, and compares what was shown since, and the status. */
    private static void line(String text, String shown, int status) {
        Check.type(x, 0, text + "\n");
        for (int i = 0; i < 20; i++) {
            x.step(20);
        }
        String all = Check.shown(x, 0);
        Check.text(text, all.substring(Math.min(seen, all.length())), shown);
        seen = all.length();
        Check.is("status behind " + text, x.status(0, 1), status);
        if (seen > 180) {
            throw new IllegalStateException("too much is shown for this test");
        }
    }

    private static void tools() {
        start();
        line("echo hi", "hi\n", 0);
        line("  echo  a   b ", "a b\n", 0);
        line("echo", "\n", 0);
        line("echo hi > a", "", 0);
        line("cat a", "hi\n", 0);
        line("cat < /a", "hi\n", 0);
        line("cat a a", "hi\nhi\n", 0);
        line("cat b", "", 1);
        line("echo yo >> a; wc < a", "6\n", 0);
        line("mkdir /d", "", 0);
        line("mkdir /d", "", 1);
        line("ls /", "a\nd\n", 0);
        line("ln a d/b && cat /d/b", "hi\nyo\n", 0);
        line("rm a || echo no", "", 0);
        line("mv d/b c; ls /", "c\nd\n", 0);
        start();
        line("echo x>a;chmod 0 a", "", 0);
        Check.is("mode", x.inode(0, 1, 1), 0);
        line("echo one two | cat | wc", "8\n", 0);
        line("echo hi | lp", "", 0);
        Check.is("printed", x.printed(0, 0), 'h');
        Check.is("printed", x.printed(0, 2), 10);
        line("sync", "", 0);
        Check.is("safe", x.log(0, 's') == x.log(0, 'n'), true);
        line("mkdir a", "", 1);
        line("rm q", "", 1);
        line("ls a", "", 1);
    }

    private static void words() {
        start();
        line("x=ab", "", 0);
        Check.is("variable", x.variable(0, 1, 'x', 0), 'a');
        Check.is("variable", x.variable(0, 1, 'x', 1), 'b');
        Check.fails("variable", Check.NONE, () -> x.variable(0, 1, 'x', 2));
        Check.fails("variable", Check.NONE, () -> x.variable(0, 1, 'x', -1));
        Check.fails("variable", Check.NONE, () -> x.variable(0, 1, 'y', 0));
        Check.fails("variable", Check.ARGUMENT, () -> x.variable(0, 1, 'A', 0));
        Check.fails("variable", Check.ARGUMENT, () -> x.variable(3, 1, 'a', 0));
        Check.fails("variable", Check.INDEX, () -> x.variable(0, 2, 'a', 0));
        Check.fails("variable", Check.UNSUPPORTED, () -> x.variable(0, 0, 'a', 0));
        line("echo $x '$x' \"$x;c\" $xd", "ab $x ab;c abd\n", 0);
        line("nope", "?\n", 127);
        line("echo $?", "127\n", 0);
        line("y='a b'; echo $y$y", "a ba b\n", 0);
        line("z=\"it's\"; echo $z", "it's\n", 0);
        line("x=", "", 0);
        line("echo [$x]''", "[]\n", 0);
        line("x=1234567890123456789012345678", "", 0);
        line("echo $x$x", "1234567890123456789012345678123456789012\n", 0);
        start();
        for (String bad : new String[] {";", "a;;b", "a &&", "|a", "a | | b", "a >", "> a", "'a", "\"a", "$", "$A",
            "echo \"$\"", "a b c d e f g", "a|a|a|a|a|a|a|a|a", "a & && b", "a ||", "a < | b", "&"}) {
            line(bad, "?\n", 2);
        }
        line("", "", 2);
        start();
        line("a&&a&&a&&a&&a&&a&&a&&a", "?\n", 127);
        line("x=&x=;x=|x=", "?\n?\n", 127);
        // Signals that do nothing to a shell, and one that ends it.
        for (int s : new int[] {2, 5, 7, 9, 10}) {
            line("kill " + s + " 1", "", 0);
            Check.is("not stopped", x.process(0, 1, 's'), 0);
        }
        Check.type(x, 0, "kill 1 1\n");
        x.step(3);
        Check.is("ended by 1", x.event(x.events() - 1, 'n'), 1129);
        start();
        line("echo a b c d e", "a b c d e\n", 0);
        line("echo a;", "a\n", 0);
        line("echo a>b>c; cat c; ls /", "a\nb\nc\n", 0);
        line("echo 5>d;cat<d", "5\n", 0);
        line("cd nowhere", "", 1);
        line("cd", "?\n", 127);
        line("cd / / /", "?\n", 127);
        line("x=a | cat", "?\n", 127);
        line("cat < nope", "?\n", 1);
        line("16", "?\n", 127);
        line("007", "?\n", 127);
    }

    private static void joining() {
        start();
        Check.program(x, 2, 22, 2, 0, 0);
        Check.program(x, 3, 33, 60, 0, 0, 22, 3, 0, 0);
        Check.program(x, 4, 12, 0, 0, 0, 12, 1, 1, 0, 12, 2, 7, 0, 12, 3, 13, 0, 12, 4, 15, 0, 22, 1001, 0, 0);
        line("2", "", 2);
        line("2 && echo a", "", 2);
        line("2 || echo a", "a\n", 0);
        line("2 && echo a || echo b", "b\n", 0);
        line("2; echo $?", "2\n", 0);
        line("4 77", "", 77);
        line("2 | echo a", "a\n", 0);
        line("echo a | 2", "", 2);
        line("mkdir d; cd d", "", 0);
        Check.is("directory", x.process(0, 1, 'd'), 1);
        line("echo h > f; cat /d/f", "h\n", 0);
        line("cd /", "", 0);
        // Arguments.
        start();
        Check.program(x, 5, 12, 0, 0, 0, 12, 1, 1, 0, 12, 2, 2, 0, 12, 3, 8, 0, 12, 4, 13, 0, 12, 5, 17, 0,
            43, 0, 3, 0);
        Check.type(x, 0, "5 /a/b xyz c/d\n");
        x.step(20);
        int[] due = {3, 29, Integer.MIN_VALUE, 18, '/', 0};
        for (int r = 0; r < 6; r++) {
            Check.is("argument in " + r, x.register(0, 1, r), r == 5 ? 0 : due[r]);
        }
        Check.is("in front", x.job(0, 1, 0), 4);
        // What is beyond 63 is dropped; where an argument begins is told all the same.
        start();
        Check.program(x, 6, 12, 0, 0, 0, 12, 1, 63, 0, 12, 2, 9, 0, 12, 3, 8, 0, 43, 0, 3, 0);
        Check.type(x, 0, "y=0123456789012345678901234567890123\n");
        Check.type(x, 0, "6 $y $y $y\n");
        x.step(20);
        Check.is("words", x.register(0, 1, 0), 3);
        Check.is("63", x.register(0, 1, 1), '5');
        Check.is("the third", x.register(0, 1, 2), 13 + 2 * 35);
        Check.is("the second", x.register(0, 1, 3), 13 + 35);
    }

    private static void pipesAndFiles() {
        start();
        // The last file that is told counts, ahead of pipes; all others are closed.
        line("echo a > f; echo b > g", "", 0);
        line("cat < f < g", "b\n", 0);
        line("echo c | cat < f", "a\n", 0);
        line("echo d > h | cat", "", 0);
        line("cat h", "d\n", 0);
        line("ls / | cat | cat | cat", "f\ng\nh\n", 0);
        // Everything is closed behind that: 15 more can be opened.
        x.spawn(0, 0, -1);
        x.spawn(0, 0, -1);
        x.spawn(0, 0, -1);
        for (int i = 0; i < 15; i++) {
            Check.is("50", x.does(0, 1 + i / 6, 50, 0, 6, 1), i % 6);
        }
        Check.is("50", x.does(0, 3, 50, 0, 6, 1), -23);
        line("echo a | cat", "?\n", 126);
        line("echo a > f", "?\n", 1);
        line("echo a", "a\n", 0);
        // A writer whose reader is gone.
        start();
        Check.program(x, 1, 33, 5, 0, 0, 22, 4, 0, 0);
        Check.program(x, 2, 53, 1, 1, 65, 8, 0, 0, 0);
        line("2 | 1", "", 4);
    }

    private static void jobs() {
        start();
        Check.program(x, 3, 33, 60, 0, 0, 22, 3, 0, 0);
        Check.type(x, 0, "3 &\n");
        x.step(5);
        Check.is("status", x.status(0, 1), 0);
        Check.is("job", x.job(0, 1, 1), 4);
        Check.is("nothing in front", x.job(0, 1, 0), 0);
        Check.type(x, 0, "wait;echo $?\n");
        x.step(20);
        Check.is("waits", x.waits(0, 0, 's'), 'c');
        x.step(80);
        Check.text("shown", Check.shown(x, 0), "0\n");
        Check.is("over", x.job(0, 1, 1), 0);
        // 26 stops what is in front; it is a job behind; fg brings it on, and its status counts.
        Check.type(x, 0, "3\n");
        x.step(5);
        Check.is("front", x.job(0, 1, 0), 4);
        Check.type(x, 0, "\u001a");
        x.step(1);
        Check.is("status", x.status(0, 1), 137);
        Check.is("front", x.job(0, 1, 0), 0);
        Check.is("behind", x.job(0, 1, 1), 4);
        Check.is("stopped", x.process(0, 2, 's'), 1);
        Check.type(x, 0, "fg 2\n");
        x.step(3);
        Check.is("no such job", x.status(0, 1), 1);
        Check.type(x, 0, "fg 1\n");
        x.step(3);
        Check.is("front", x.job(0, 1, 0), 4);
        Check.is("goes on", x.process(0, 2, 's'), 0);
        x.step(80);
        Check.is("status", x.status(0, 1), 3);
        // kill, of what is behind, and 3 of what is in front.
        Check.type(x, 0, "3&\nkill 3 2;echo $?;kill 3 2;kill 99 1\n");
        x.step(30);
        Check.text("shown", Check.shown(x, 0), "0\n0\n");
        Check.is("status", x.status(0, 1), 1);
        Check.type(x, 0, "3\n");
        x.step(5);
        Check.type(x, 0, "\u0003");
        x.step(3);
        Check.is("status", x.status(0, 1), 130);
        // Four jobs behind, and no more.
        Check.program(x, 3, 33, 200, 0, 0, 22, 3, 0, 0);
        Check.type(x, 0, "3&3&3&3&3&\n");
        x.step(12);
        Check.text("shown", Check.shown(x, 0), "0\n0\n?\n");
        Check.is("status", x.status(0, 1), 126);
        Check.is("job", x.job(0, 1, 4), 32);
        Check.fails("job", Check.ARGUMENT, () -> x.job(0, 1, 5));
        Check.fails("job", Check.ARGUMENT, () -> x.job(3, 1, 0));
        Check.fails("job", Check.INDEX, () -> x.job(0, 9, 0));
        Check.fails("job", Check.UNSUPPORTED, () -> x.job(0, 2, 0));
        Check.fails("status", Check.ARGUMENT, () -> x.status(3, 1));
        Check.fails("status", Check.INDEX, () -> x.status(0, 9));
        Check.fails("status", Check.UNSUPPORTED, () -> x.status(0, 2));
        Check.type(x, 0, "exit 258\n");
        x.step(3);
        Check.is("children of 0", x.process(0, 2, 'p'), 0);
        Check.fails("gone", Check.INDEX, () -> x.status(0, 1));
        x.crash(0);
        Check.fails("down", Check.INDEX, () -> x.status(0, 1));
        Check.fails("down", Check.INDEX, () -> x.job(0, 1, 0));
        Check.fails("down", Check.INDEX, () -> x.variable(0, 1, 'a', 0));
    }

    private static void stoppedJobs() {
        // Of a pipe the last one has ended already as the other one is stopped: its status counts in the end.
        start();
        Check.program(x, 3, 33, 40, 0, 0, 22, 3, 0, 0);
        Check.program(x, 4, 22, 44, 0, 0);
        Check.type(x, 0, "3 | 4\n");
        x.step(8);
        Check.is("front", x.job(0, 1, 0), 12);
        Check.is("the last one ended", x.process(0, 3, 's'), 2);
        Check.type(x, 0, "\u001a");
        x.step(2);
        Check.is("status", x.status(0, 1), 137);
        Check.is("behind, and what ended is gone", x.job(0, 1, 1), 4);
        Check.type(x, 0, "wait;echo $?\n");
        x.step(40);
        Check.text("wait does not wait for what is stopped", Check.shown(x, 0), "0\n");
        Check.type(x, 0, "fg 1\n");
        x.step(60);
        Check.is("status of the last one of the pipe", x.status(0, 1), 44);
        // Without a free job what is stopped stays in front.
        start();
        Check.program(x, 3, 33, 390, 0, 0, 22, 3, 0, 0);
        Check.type(x, 0, "3&3&3&3&3\n");
        x.step(12);
        Check.is("front", x.job(0, 1, 0), 64);
        Check.type(x, 0, "\u001a");
        x.step(2);
        Check.is("stays in front", x.job(0, 1, 0), 64);
        Check.is("status", x.status(0, 1), 137);
        Check.is("waits", x.waits(0, 0, 's'), 'c');
        x.spawn(0, 0, -1);
        int t = 0;
        while (x.thread(0, t, 'p') != 7) {
            t++;
        }
        Check.is("27", x.does(0, t, 27, 0, 2, 3), 0);
        x.step(2);
        Check.is("a job is free now", x.job(0, 1, 1), 64);
        Check.is("nothing in front", x.job(0, 1, 0), 0);
        // A script in front is not ended by 3; what it runs in front is not told of it.
        start();
        line("echo 'sleep 30' > s", "", 0);
        Check.type(x, 0, "sh s\n");
        x.step(12);
        Check.type(x, 0, "\u0003\u001a");
        x.step(1);
        Check.is("goes on", x.process(0, 2, 's'), 0);
        Check.is("goes on", x.process(0, 3, 's'), 0);
        Check.is("its parent", x.process(0, 3, 'p'), 2);
        Check.is("its front", x.job(0, 2, 0), 8);
        x.step(60);
        Check.is("status", x.status(0, 1), 0);
        Check.fails("ended", Check.INDEX, () -> x.status(0, 2));
    }

    private static void scripts() {
        start();
        line("echo 'echo a' > s", "", 0);
        line("echo 'x=5;echo $x' >> s", "", 0);
        line("sh s", "a\n5\n", 0);
        Check.fails("its own variables", Check.NONE, () -> x.variable(0, 1, 'x', 0));
        line("sh", "", 2);
        line("sh t", "", 1);
        line("echo 'exit 7' >> s; sh s", "a\n5\n", 7);
        line("echo '|' > u; sh u", "?\n", 2);
        line("echo nope > u; sh u > v", "", 127);
        line("sh u | cat", "", 0);
        // An end behind keys: they are a line first, and the end stays.
        Check.type(x, 0, "echo b\u0004\u0004");
        x.step(100);
        Check.text("shown", Check.shown(x, 0).substring(seen), "b\n");
        Check.fails("the end ends it", Check.INDEX, () -> x.status(0, 1));
        Check.is("keys", x.keys(0, true), 0);
    }

    public static void main(String[] args) {
        tools();
        words();
        joining();
        pipesAndFiles();
        jobs();
        stoppedJobs();
        scripts();
        Check.end("ShellTest");
    }
}
