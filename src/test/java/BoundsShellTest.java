/** Part 9 of the terms, sentence by sentence where it names a bound: lines, words, commands, jobs, arguments, scripts. */
public final class BoundsShellTest {
    private static KernelWorks x;
    private static int seen;

    private static void start() {
        x = new KernelWorks();
        x.login(0, 0);
        seen = 0;
    }

    /** Types a line, lets it be done, and compares what was shown since, and the status. */
    private static void line(String text, String shown, int status) {
        Check.type(x, 0, text + "\n");
        for (int i = 0; i < 40 && !isIdle(); i++) {
            x.step(20);
        }
        String all = Check.shown(x, 0);
        if (all.length() > 180) {
            throw new IllegalStateException("too much is shown for this test");
        }
        Check.text(text, all.substring(seen), shown);
        seen = all.length();
        Check.is("status behind " + text, x.status(0, 1), status);
    }

    private static boolean isIdle() {
        x.step(1);
        return Check.waits(x, 0, 0).equals("k0") && x.keys(0, true) == 0;
    }

    private static String variable(char letter) {
        StringBuilder text = new StringBuilder();
        for (int i = 0; i < 41; i++) {
            try {
                text.append(x.variable(0, 1, letter, i));
            } catch (java.util.NoSuchElementException e) {
                break;
            }
        }
        return text.toString();
    }

    /** "A status is 0 at first; variables a to z are empty." */
    private static void atFirst() {
        start();
        Check.is("status", x.status(0, 1), 0);
        for (char c = 'a'; c <= 'z'; c++) {
            Check.text("variable " + c, variable(c), "");
        }
        for (int j = 0; j <= 4; j++) {
            Check.is("job " + j, x.job(0, 1, j), 0);
        }
        x.step(1);
        Check.text("it waits for keys", Check.waits(x, 0, 0), "k0");
        Check.is("at the row 0 always", x.thread(0, 0, 'r'), 0);
    }

    /** "; & && | || < > >>, the longest sign that fits first, with blanks between them, or none where that is clear". */
    private static void signs() {
        start();
        line("echo a;echo b", "a\nb\n", 0);
        line("echo a&&echo b", "a\nb\n", 0);
        line("echo a||echo b", "a\n", 0);
        line("echo a|cat", "a\n", 0);
        line("echo a>f", "", 0);
        line("echo b>>f", "", 0);
        line("cat<f", "a\nb\n", 0);
        line("echo   a   ;   echo   b", "a\nb\n", 0);
        for (String bad : new String[] {"echo a&&&echo b", "echo a|||echo b", "echo a>>>f", "echo a<<f", "echo a;;echo b",
            "echo a<>f", "echo a& &echo b", "echo a| |cat", "echo a> >f"}) {
            line(bad, "?\n", 2);
        }
        line("cat f", "a\nb\n", 0);
        line("cd /&cd /", "?\n", 0);
        line("cd x & cd x", "?\n", 1);
    }

    /** "A word is a row of characters that are no blank .., of $ and a letter a to z or ?, of ' .., and of \" ..". */
    private static void words() {
        start();
        line("a=1", "", 0);
        line("z=26", "", 0);
        line("echo $a $z $az [$b]", "1 26 1z []\n", 0);
        for (String bad : new String[] {"echo $", "echo $A", "echo $`", "echo ${", "echo $1", "echo $ a", "echo \"$\"",
            "echo \"$A\"", "echo '", "echo \"", "echo 'a", "echo \"a'", "echo a'b\"c"}) {
            line(bad, "?\n", 2);
        }
        line("echo '$' '$A' '\"' \"'\"", "$ $A \" '\n", 0);
        line("echo \"$a;$z|\" '$a'", "1;26| $a\n", 0);
        line("echo ''", "\n", 0);
        line("echo '' b", " b\n", 0);
        line("echo a''b\"\"c", "abc\n", 0);
        line("echo \"a  b\"'  c'", "a  b  c\n", 0);
        line("''", "?\n", 127);
        line("echo $?", "127\n", 0);
        line("echo $?", "0\n", 0);
    }

    /** "A simple command is 1 to 6 words, and any many of < > >> with a word behind each, in any order." */
    private static void commandsOfWords() {
        start();
        line("echo 1 2 3 4 5", "1 2 3 4 5\n", 0);
        line("echo 1 2 3 4 5 6", "?\n", 2);
        line("> f", "?\n", 2);
        line("> f echo 1", "", 0);
        line("cat f", "1\n", 0);
        line("> f echo > g 2 > h", "", 0);
        line("cat f", "", 0);
        line("cat h", "2\n", 0);
        line("echo 1 2 3 4 5 >f>f>f>f>f>f>f>f", "", 0);
        line("cat f", "1 2 3 4 5\n", 0);
        line("echo >", "?\n", 2);
        line("echo > ;", "?\n", 2);
        line("echo > |", "?\n", 2);
    }

    /** "a line is nothing, or pipes with ; & && || between them, and perhaps ; or & behind the last one. .. 8". */
    private static void lines() {
        start();
        line("2", "", 0);
        Check.program(x, 2, 22, 2, 0, 0);
        line("2", "", 2);
        line("", "", 2);
        line("   ", "", 2);
        line("echo a;", "a\n", 0);
        line("echo a ; ", "a\n", 0);
        for (String bad : new String[] {";", "&", "&&", "||", "|", "; echo a", "& echo a", "&& echo a", "|| echo a",
            "| cat", "echo a |", "echo a &&", "echo a ||", "echo a ; ;", "echo a & ;", "echo a ; &", "echo a && ;"}) {
            line(bad, "?\n", 2);
        }
        start();
        line("a=1;a=2;a=3;a=4;a=5;a=6;a=7;a=8", "", 0);
        Check.text("eight", variable('a'), "8");
        line("a=1;a=2;a=3;a=4;a=5;a=6;a=7;a=8;", "", 0);
        line("b=1;b=2;b=3;b=4;b=5;b=6;b=7;b=8;b=9", "?\n", 2);
        Check.text("nothing is done", variable('b'), "");
        line("echo a|cat|cat|cat;echo b|cat|cat|cat", "a\nb\n", 0);
        line("echo a|cat|cat|cat;echo b|cat|cat|cat|wc", "?\n", 2);
    }

    /** "behind && only if the status is 0, behind || only if it is not, otherwise it is left out in a step of its own". */
    private static void joins() {
        start();
        Check.program(x, 3, 22, 3, 0, 0);
        String[] firsts = {"cd /", "cd x"};
        for (String first : firsts) {
            boolean good = first.equals("cd /");
            line(first + "&&a=1", "", good ? 0 : 1);
            line(first + "||a=1", "", 0);
            line(first + "&&b=1||b=2", "", 0);
            Check.text("behind " + first, variable('b'), good ? "1" : "2");
            line(first + "||c=1&&c=2", "", 0);
            Check.text("behind " + first, variable('c'), "2");
        }
        // Each in a step of its own: a line of five takes a step to read it, and five for its pipes.
        start();
        Check.type(x, 0, "a=1||b=1||c=1||d=1;e=1\n");
        for (int i = 0; i < 6; i++) {
            Check.text("step " + i, variable('a') + variable('e'), i < 2 ? "" : i < 6 ? "1" : "11");
            x.step(1);
        }
        Check.text("the fifth", variable('e'), "1");
        Check.text("left out", variable('b') + variable('c') + variable('d'), "");
    }

    /** "a word has at most 40 characters, others are dropped." */
    private static void fortyCharacters() {
        start();
        line("a=123456789 123456789", "?\n", 127);
        line("a='123456789 123456789 123456789 123456'", "", 0);
        Check.is("36 are kept", variable('a').length(), 36);
        line("b=$a", "", 0);
        Check.is("36 behind the sign", variable('b').length(), 36);
        line("b=$a'xyz'", "", 0);
        Check.is("38 at most", variable('b').length(), 38);
        Check.is("the last one", variable('b').charAt(37), 'y');
        line("c=\"$a$a\"", "", 0);
        Check.is("38 at most", variable('c').length(), 38);
        line("echo $c", variable('c') + "\n", 0);
        line("echo ab$c", "ab" + variable('c') + "\n", 0);
        line("echo abc$c", "abc" + variable('c').substring(0, 37) + "\n", 0);
        Check.fails("no 39th", Check.NONE, () -> x.variable(0, 1, 'c', 38));
    }

    /** "of one word that begins with a letter a to z and =: the variable becomes the rest, the status 0." */
    private static void assignments() {
        start();
        line("cd x", "", 1);
        line("a=", "", 0);
        line("z=y", "", 0);
        line("a==", "", 0);
        Check.text("rest", variable('a'), "=");
        for (String no : new String[] {"A=1", "ab=1", "=1", "1=1", "a", "`=1", "{=1"}) {
            line(no, "?\n", 127);
        }
        line("a=1 b=2", "?\n", 127);
        line("a=5 > f", "?\n", 127);
        line("a=6 | cat", "?\n", 127);
        line("a=7 &", "?\n", 127);
        Check.text("nothing of these", variable('a'), "=");
        line("'a=8'", "", 0);
        line("b='c=9'", "", 0);
        line("$b", "", 0);
        Check.text("as the words are then", variable('c'), "9");
    }

    /** "Those that follow have just as many words as told." */
    private static void builtins() {
        start();
        line("cd", "?\n", 127);
        line("cd /", "", 0);
        line("cd / /", "?\n", 127);
        line("cd x", "", 1);
        line("fg", "?\n", 127);
        line("fg 1 1", "?\n", 127);
        line("wait", "", 0);
        line("wait 1", "?\n", 127);
        line("kill", "?\n", 127);
        line("kill 10", "?\n", 127);
        line("kill 10 1", "", 0);
        line("kill 10 1 1", "?\n", 127);
        line("exit 1 1", "?\n", 127);
        for (String w : new String[] {"0", "1", "4", "5", "x", "''", "9999999999"}) {
            line("fg " + w, "", 1);
        }
        // kill: as 27; "A number for exit and kill that is none is 0."
        for (String w : new String[] {"0 1", "12 1", "x 1", "9999999999 1", "10 0", "10 2", "10 10", "10 x"}) {
            line("kill " + w, "", 1);
        }
        line("kill 5 1", "", 0);
        line("kill 010 01", "", 0);
    }

    /** "exit, exit W: the shell ends with the status, or the number of W modulo 256." */
    private static void exits() {
        String[][] due = {{"exit", "0"}, {"exit 0", "0"}, {"exit 255", "255"}, {"exit 256", "0"}, {"exit 257", "1"},
            {"exit x", "0"}, {"exit 999999999", "" + 999999999 % 256}, {"exit 1000000000", "0"}, {"exit ''", "0"},
            {"cd x;exit", "1"}, {"nope;exit", "127"}, {"exit -1", "0"}};
        for (String[] d : due) {
            start();
            Check.type(x, 0, d[0] + "\n");
            x.step(6);
            Check.text(d[0], Check.events(x, x.events() - 1), "e" + (1000 + Integer.parseInt(d[1])));
        }
        // "an end ends the shell with its status, but what is ahead of it is a line first, and the end stays".
        start();
        Check.type(x, 0, "cd x\u0004\u0004");
        x.step(2);
        Check.is("the end stays", x.keys(0, true), 1);
        x.step(3);
        Check.text("with its status", Check.events(x, x.events() - 1), "e1001");
        Check.is("it was read", x.keys(0, true), 0);
    }

    /** "a word of 1 or 2 digits is one of 0 to 15, echo 16, .. sh 28. If there is another first word .. 127." */
    private static void programs() {
        start();
        Check.program(x, 0, 22, 50, 0, 0);
        Check.program(x, 1, 22, 51, 0, 0);
        Check.program(x, 15, 22, 65, 0, 0);
        line("0", "", 50);
        line("00", "", 50);
        line("1", "", 51);
        line("01", "", 51);
        line("15", "", 65);
        for (String no : new String[] {"16", "99", "000", "015", "-1", "1a", "ech", "echoo", "Echo", "e", "wc1", "28"}) {
            line(no, "?\n", 127);
        }
        line("echo a | nope", "?\n", 127);
        line("nope | echo a", "?\n", 127);
        line("echo a | cd", "?\n", 127);
        String[] tools = {"echo", "cat", "rm", "mkdir", "ln", "mv", "chmod", "ls", "wc", "sleep", "lp", "sync", "sh"};
        for (int i = 0; i < tools.length; i++) {
            start();
            Check.type(x, 0, tools[i] + " 9&\n");
            x.step(2);
            Check.is(tools[i], x.process(0, 2, 'g'), 16 + i);
        }
    }

    /** "The value of a word: of 1 to 9 digits the number; of / alone, or of names of one letter .. at most 6 names". */
    private static void values() {
        int none = Integer.MIN_VALUE;
        Object[][] due = {{"0", 0}, {"9", 9}, {"123456789", 123456789}, {"999999999", 999999999}, {"1234567890", none},
            {"0000000001", none}, {"/", 0}, {"//", none}, {"a", -1}, {"z", -26}, {"/a", 1}, {"/z", 26}, {"a/b", -29},
            {"/a/b", 29}, {"a/", none}, {"/a/", none}, {"ab", none}, {"A", none}, {"/a/b/c/d/e/f", none}, {"a//b", none},
            {"a/b/c/d/e/f", none}, {"a/b/c/d/e/f/g", none}, {"''", none}, {"-1", none}, {"1a", none}, {"{", none}};
        int six = Check.path(1, 2, 3, 4, 5, 6);
        for (Object[] d : due) {
            int value = (Integer) d[1];
            value = d[0].equals("/a/b/c/d/e/f") ? six : d[0].equals("a/b/c/d/e/f") ? -six : value;
            start();
            Check.program(x, 0, 12, 1, 1, 0, 33, 99, 0, 0);
            Check.type(x, 0, "0 " + d[0] + "\n");
            x.step(6);
            Check.is("the value of " + d[0], x.register(0, 1, 1), value);
        }
    }

    /** "0 how many words there are behind the first one; 1 to 5 their values; 7 to 11 at which argument each begins; .." */
    private static void arguments() {
        for (int words = 0; words <= 5; words++) {
            start();
            Check.program(x, 0, 12, 0, 0, 0, 12, 1, words, 0, 12, 2, 6 + words, 0, 12, 3, 6, 0, 12, 4, words + 1, 0,
                12, 5, 7 + words, 0, 12, 6, 12, 0, 33, 99, 0, 0);
            StringBuilder text = new StringBuilder("0");
            for (int i = 1; i <= words; i++) {
                text.append(' ').append(10 * i);
            }
            Check.type(x, 0, text + "\n");
            x.step(14);
            Check.is("how many", x.register(0, 1, 0), words);
            Check.is("the last value", x.register(0, 1, 1), 10 * words);
            Check.is("where it begins", x.register(0, 1, 2), words == 0 ? 0 : 13 + 3 * (words - 1));
            Check.is("6 is 0", x.register(0, 1, 3), 0);
            Check.is("none behind it", x.register(0, 1, 4), 0);
            Check.is("none behind it", x.register(0, 1, 5), 0);
            Check.is("12 is 0", x.register(0, 1, 6), 0);
        }
        // 51 characters with the 0 behind each are from 13 to 63.
        for (int more = 0; more <= 2; more++) {
            start();
            Check.program(x, 0, 12, 1, 61, 0, 12, 2, 62, 0, 12, 3, 63, 0, 12, 4, 53, 0, 12, 5, 54, 0, 33, 99, 0, 0);
            Check.type(x, 0, "a=0123456789012345678901234567890123456\n");
            String tail = "abcdefghij".substring(0, 8 + more);
            Check.type(x, 0, "0 $a'xyz' " + tail + "\n");
            x.step(20);
            Check.is("the 0 behind the first", x.register(0, 1, 4), 0);
            Check.is("the second", x.register(0, 1, 5), 'a');
            Check.is("61", x.register(0, 1, 1), 'h');
            Check.is("62", x.register(0, 1, 2), more > 0 ? 'i' : 0);
            Check.is("63", x.register(0, 1, 3), more > 1 ? 'j' : 0);
        }
    }

    /** "Then, without as many free processes, threads, pipes, open files, and, behind, a free job of 1 to 4 .. 126". */
    private static void noRoom() {
        // Processes: 0, the shell and 6 others leave two numbers.
        for (int others = 6; others <= 8; others++) {
            start();
            for (int i = 0; i < others; i++) {
                x.spawn(0, 0, -1);
            }
            line("echo a | cat", others <= 6 ? "a\n" : "?\n", others <= 6 ? 0 : 126);
            line("echo b", others <= 7 ? "b\n" : "?\n", others <= 7 ? 0 : 126);
        }
        // Threads: 14 in all.
        for (int threads = 11; threads <= 13; threads++) {
            start();
            Check.program(x, 0, 6, 1, 1000, threads - 1, 2, 0, 1000, 1, 9, 1001, 4, 0, 43, 0, 3, 0, 24, 2, 3, 0, 8, 0, 0, 0);
            x.spawn(0, 0, 0);
            x.step(120);
            Check.is("threads", x.process(0, 2, 'h'), threads);
            line("echo a | cat", threads <= 11 ? "a\n" : "?\n", threads <= 11 ? 0 : 126);
            line("echo b", threads <= 12 ? "b\n" : "?\n", threads <= 12 ? 0 : 126);
        }
        // Pipes: 6 in all.
        for (int pipes = 4; pipes <= 6; pipes++) {
            start();
            for (int i = 0; i < pipes; i++) {
                if (i % 3 == 0) {
                    x.spawn(0, 0, -1);
                }
                Check.is("66", x.does(0, 1 + i / 3, 66, 1, 0, 0) >= 0, true);
            }
            line("echo a | cat | cat", pipes <= 4 ? "a\n" : "?\n", pipes <= 4 ? 0 : 126);
            line("echo b | cat", pipes <= 5 ? "b\n" : "?\n", pipes <= 5 ? 0 : 126);
            line("echo c", "c\n", 0);
        }
        // A pipe of which just one end is open is none that is free.
        start();
        for (int i = 0; i < 6; i++) {
            if (i % 3 == 0) {
                x.spawn(0, 0, -1);
            }
            Check.is("66", x.does(0, 1 + i / 3, 66, 1, 0, 0) >= 0, true);
        }
        Check.is("51", x.does(0, 1, 51, 1, 0, 0), 0);
        Check.is("51", x.does(0, 1, 51, 1, 3, 0), 0);
        line("echo b | cat", "?\n", 126);
        Check.is("51", x.does(0, 1, 51, 1, 2, 0), 0);
        line("echo b | cat", "b\n", 0);
        // Open files: the terminal is one of 16.
        for (int files = 12; files <= 15; files++) {
            start();
            for (int i = 0; i < files; i++) {
                if (i % 6 == 0) {
                    x.spawn(0, 0, -1);
                }
                Check.is("50", x.does(0, 1 + i / 6, 50, 1, 9, 7), i % 6);
            }
            line("echo b | cat", files <= 13 ? "b\n" : "?\n", files <= 13 ? 0 : 126);
            line("echo c > g", files <= 14 ? "" : "?\n", files <= 14 ? 0 : 1);
            line("echo d > g | cat", files <= 12 ? "" : "?\n", files <= 12 ? 0 : files <= 14 ? 126 : 1);
            line("echo c", "c\n", 0);
        }
        // Jobs behind: 1 to 4.
        start();
        Check.program(x, 3, 33, 390, 0, 0);
        for (int j = 1; j <= 5; j++) {
            line("3 &", j <= 4 ? "" : "?\n", j <= 4 ? 0 : 126);
        }
        for (int j = 1; j <= 4; j++) {
            Check.is("job", x.job(0, 1, j), 1 << j + 1);
        }
        line("echo a", "a\n", 0);
        line("kill 3 3", "", 0);
        line("3 &", "", 0);
        Check.is("the lowest free one", x.job(0, 1, 2), 1 << 3);
    }

    /** "the job becomes the lowest free one of 1 to 4 behind (without one it stays in front ..), and the status is 137". */
    private static void stopped() {
        start();
        Check.program(x, 3, 33, 390, 0, 0);
        for (int j = 1; j <= 5; j++) {
            Check.type(x, 0, "3\n");
            x.step(5);
            Check.is("in front", x.job(0, 1, 0), 1 << j + 1);
            Check.type(x, 0, "\u001a");
            x.step(1);
            Check.is("status", x.status(0, 1), 137);
            Check.is("in front", x.job(0, 1, 0), j <= 4 ? 0 : 64);
            if (j <= 4) {
                Check.is("behind", x.job(0, 1, j), 1 << j + 1);
            }
        }
        Check.text("the shell waits", Check.waits(x, 0, 0), "c1");
        // "if all its processes ended": 3 ends what is stopped, and the one before is behind still.
        x.spawn(0, 0, -1);
        int t = 0;
        while (x.thread(0, t, 'p') != 7) {
            t++;
        }
        x.does(0, t, 27, 1, 6, 3);
        x.step(2);
        Check.is("the status of what ended", x.status(0, 1), 131);
        Check.is("nothing is in front", x.job(0, 1, 0), 0);
    }

    /** "wait: if there are jobs behind of which a process is not stopped and did not end, it waits ('c')". */
    private static void waiting() {
        start();
        Check.program(x, 3, 33, 30, 0, 0);
        line("wait", "", 0);
        Check.type(x, 0, "3&\nwait\ncd x\n");
        x.step(20);
        Check.text("it waits", Check.waits(x, 0, 0), "c1");
        Check.is("status", x.status(0, 1), 0);
        x.step(30);
        Check.is("then it goes on", x.status(0, 1), 1);
        Check.type(x, 0, "3\n");
        x.step(5);
        Check.type(x, 0, "\u001await\n");
        x.step(5);
        Check.is("not for what is stopped", x.status(0, 1), 0);
        Check.is("that is behind", x.job(0, 1, 1), 4);
        Check.type(x, 0, "kill 10 2;wait\n");
        x.step(5);
        Check.text("it waits", Check.waits(x, 0, 0), "c1");
    }

    /** A file of these cells with the name w, made by a driven process. */
    private static void write(String text) {
        x.spawn(0, 0, -1);
        int t = 0;
        while (!Check.waits(x, 0, t).equals("h0")) {
            t++;
        }
        Check.is("50", Check.row(x, 0, t, 50, 1, 23, 15), 0);
        for (char c : text.toCharArray()) {
            Check.is("53", Check.row(x, 0, t, 53, 1, 0, c), 1);
        }
        x.does(0, t, 22, 0, 0, 0);
    }

    /** "cells that are not 32 to 126 are left out, of more than 40 the rest is dropped; behind the end .. with status". */
    private static void scripts() {
        start();
        write("echo" + (char) 31 + (char) 127 + (char) 1 + " a~" + (char) 128 + "b\n");
        line("sh w", "a~b\n", 0);
        // 40 characters are a line; what is behind them is dropped.
        write("echo 12345678901234567890123456789012345X\n");
        line("sh w", "12345678901234567890123456789012345\n", 0);
        write("echo 1234567890123456789012345678901234X\n");
        line("sh w", "1234567890123456789012345678901234X\n", 0);
        write("cd x");
        line("sh w", "", 1);
        write("cd x\n\n");
        line("sh w", "", 1);
        write("");
        line("sh w", "", 0);
        write("\u0001\u0002");
        line("sh w", "", 0);
        write("exit 5\necho no\n");
        line("sh w", "", 5);
        line("sh", "", 2);
        line("sh q", "", 1);
        line("sh /", "", 1);
        line("sh w w w w w", "", 5);
        // In its first step it opens the file; the number is the lowest free one.
        write("sleep 50\n");
        Check.type(x, 0, "sh w\n");
        x.step(12);
        Check.is("its own front", x.job(0, 2, 0), 8);
        Check.is("its status", x.status(0, 2), 0);
    }

    /** "behind the end it ends with the status, after a last line that is not empty": what that line writes is not read. */
    private static void scriptsThatGrow() {
        for (String last : new String[] {"echo x>>w", "echo exit 9>>w;echo a|cat>>w"}) {
            start();
            write(last);
            line("sh w", "", 0);
        }
        // A faulty last line, and one that ends the shell itself.
        start();
        write("echo x>>w;|");
        line("sh w", "?\n", 2);
        write("echo exit 9>>w;exit 7");
        line("sh w", "", 7);
        // Ahead of the end lines are read that were written meanwhile: the file has a 10 behind its last line.
        start();
        write("echo exit 9>>w\n");
        line("sh w", "", 9);
        start();
        write("echo exit 9>>w\n\n");
        line("sh w", "", 9);
        // At the end it waits for its job, and ends behind that.
        start();
        write("sleep 30;echo exit 9>>w");
        line("sh w", "", 0);
    }

    /** "a shell made so is there that did not end": by login() alone, not by sh. */
    private static void logins() {
        start();
        Check.fails("a second", Check.UNSUPPORTED, () -> x.login(0, 0));
        Check.is("on another machine", x.login(1, 0), 1);
        write("sleep 300\n");
        Check.type(x, 0, "sh w&exit 3\n");
        x.step(6);
        Check.is("a script goes on", x.process(0, 2, 'g'), 28);
        Check.is("its parent", x.process(0, 2, 'p'), 0);
        Check.is("what it runs has the number of the first shell", x.process(0, 1, 'g'), 25);
        Check.is("anew", x.login(0, 2), 3);
        Check.fails("a second", Check.UNSUPPORTED, () -> x.login(0, 0));
        x.crash(0);
        x.boot(0);
        Check.is("behind a start", x.login(0, 2), 1);
    }

    /** "Its files 0 and 1 are the terminal": closed as it ends; a new one has nothing of the one before. */
    private static void shellsOneBehindTheOther() {
        start();
        line("a=1;z=2", "", 0);
        Check.program(x, 3, 33, 390, 0, 0);
        line("3&3&3&3&", "", 0);
        Check.type(x, 0, "cd x;exit\n");
        x.step(6);
        Check.is("login", x.login(0, 0), 1);
        Check.is("status", x.status(0, 1), 0);
        for (char c = 'a'; c <= 'z'; c++) {
            Check.text("variable " + c, variable(c), "");
        }
        for (int j = 0; j <= 4; j++) {
            Check.is("job " + j, x.job(0, 1, j), 0);
        }
        line("echo $a$z", "\n", 0);
        // The terminal was closed: 15 more can be opened beside the new one.
        start();
        line("cd /", "", 0);
        Check.type(x, 0, "exit\n");
        x.step(3);
        Check.is("login", x.login(0, 0), 1);
        openFifteen();
    }

    /** Fifteen files can be opened, and no more. */
    private static void openFifteen() {
        for (int i = 0; i < 3; i++) {
            x.spawn(0, 0, -1);
        }
        int open = 0;
        int last = 0;
        for (int t = 0; t < 14; t++) {
            while (Check.waits(x, 0, t).equals("h0") && last != -24 && last != -23) {
                last = x.does(0, t, 50, 1, 9, 7);
                open += last >= 0 ? 1 : 0;
            }
            last = last == -23 ? last : 0;
        }
        Check.is("the 16th", last, -23);
        Check.is("fifteen", open, 15);
    }

    /** "its files 0 and 1, but those of pipes and files that were opened": the first open file of the machine, too. */
    private static void theFirstOpenFile() {
        x = new KernelWorks();
        x.spawn(0, 0, -1);
        Check.is("50", x.does(0, 0, 50, 1, 9, 7), 0);
        x.login(0, 0);
        seen = 0;
        Check.is("51", x.does(0, 0, 51, 1, 0, 0), 0);
        x.does(0, 0, 22, 0, 0, 0);
        String[] lines = {"echo a > f", "cat < f", "echo b | cat", "cat < f > g", "cat g", "cat < g < f"};
        String[] due = {"", "a\n", "b\n", "", "a\n", "a\n"};
        for (int i = 0; i < lines.length; i++) {
            Check.type(x, 0, lines[i] + "\n");
            x.step(150);
            Check.text(lines[i], Check.shown(x, 0).substring(seen), due[i]);
            seen = Check.shown(x, 0).length();
        }
        Check.type(x, 0, "echo 'echo s' > w;sh w\n");
        x.step(200);
        Check.text("a script", Check.shown(x, 0).substring(seen), "s\n");
        // Nothing is open behind that but the terminal.
        openFifteen();
        // The first open file is the terminal: a child of a shell that ended has it as its files 0 and 1 still.
        start();
        Check.program(x, 3, 33, 9, 0, 0, 51, 1, 0, 0, 53, 2, 1, 65, 33, 99, 0, 0);
        Check.type(x, 0, "3&exit\n");
        x.step(20);
        Check.fails("it ended", Check.INDEX, () -> x.status(0, 1));
        Check.text("shown", Check.shown(x, 0), "A");
    }

    /** "files opened are closed in all these cases": refused, without a program, without room. */
    private static void filesThatAreClosed() {
        start();
        line("echo a > f", "", 0);
        for (int i = 0; i < 20; i++) {
            line("cat<f<f<nope", "?\n", 1);
            line("nope<f<f", "?\n", 127);
        }
        line("cat < f", "a\n", 0);
        start();
        line("echo a > f", "", 0);
        for (int i = 0; i < 7; i++) {
            x.spawn(0, 0, -1);
        }
        for (int i = 0; i < 9; i++) {
            line("cat<f<f|cat<f<f", "?\n", 126);
        }
        line("cat < f", "a\n", 0);
        // One that has to wait for the log: those opened are closed, and it is done anew, till all can be opened.
        start();
        for (int i = 0; i < 6; i++) {
            line("echo a >f>g>h>i>j>k>l", "", 0);
        }
        line("cat l", "a\n", 0);
        line("cat f", "", 0);
        Check.is("isSound", x.isSound(), true);
        Check.is("no inode is left over", x.block(0, 0, 2) < 1 << 9, true);
    }

    /** "as by 50 with 1, 14 and 22": the rights that these need; "sh W .. as by 50 with 1". */
    private static void rightsOfFiles() {
        // Modes of a file of user 1, which a shell of user 1 uses: 4 reads, 2 writes.
        for (int mode = 0; mode < 8; mode += 2) {
            x = new KernelWorks();
            x.spawn(0, 0, -1);
            Check.row(x, 61, 0, 511);
            x.does(0, 0, 22, 0, 0, 0);
            x.login(0, 1);
            seen = 0;
            line("echo x=1 > f", "", 0);
            line("chmod " + 64 * mode + " f", "", 0);
            boolean reads = (mode & 4) != 0;
            boolean writes = (mode & 2) != 0;
            line("cat < f", reads ? "x=1\n" : "?\n", reads ? 0 : 1);
            line("sh f", "", reads ? 0 : 1);
            line("echo y=2 >> f", writes ? "" : "?\n", writes ? 0 : 1);
            line("echo z=3 > f", writes ? "" : "?\n", writes ? 0 : 1);
            Check.is("size", x.inode(0, 1, 4), 4);
        }
    }

    /** "a child of the shell with its user and directory". */
    private static void children() {
        start();
        line("mkdir d; cd d; echo a > f; cat f", "a\n", 0);
        line("cat d/f", "", 1);
        line("ls /d", "f\n", 0);
        line("cd /; cat d/f", "a\n", 0);
        line("mv d/f g; ls /", "d\ng\n", 0);
        line("ls d", "", 0);
        line("ln g d/h; cat d/h; ls d", "a\nh\n", 0);
        line("rm g; rm d/h; rm d", "", 0);
        line("ls /", "", 0);
        x = new KernelWorks();
        x.login(0, 3);
        Check.program(x, 3, 33, 99, 0, 0);
        Check.type(x, 0, "3\n");
        x.step(4);
        Check.is("its user", x.process(0, 2, 'u'), 3);
        Check.is("a child of the shell", x.process(0, 2, 'p'), 1);
        Check.is("priority and limit", x.process(0, 2, 'r') * 10 + x.process(0, 2, 'l'), 48);
        // The files of a script are those that it was given.
        start();
        write("echo a\ncat\n");
        Check.type(x, 0, "sh w > o\n");
        x.step(60);
        Check.type(x, 0, "xy\n");
        x.step(20);
        Check.type(x, 0, "\u0004");
        x.step(60);
        line("cat o", "a\nxy\n", 0);
    }

    /** "with & behind it, it is behind .. behind: the status is 0"; "the step is done anew" of wait; job 4. */
    private static void behind() {
        start();
        Check.program(x, 3, 33, 390, 0, 0, 22, 3, 0, 0);
        Check.program(x, 4, 12, 1, 1, 0, 33, 1001, 0, 0, 22, 4, 0, 0);
        line("cd x", "", 1);
        line("4 1&", "", 0);
        Check.type(x, 0, "4 20&4 60&wait;cd x\n");
        x.step(20);
        Check.text("it waits", Check.waits(x, 0, 0), "c1");
        x.step(25);
        Check.is("the first one has ended", x.job(0, 1, 1) + x.job(0, 1, 2) > 0, true);
        Check.is("it waits for the other one", x.status(0, 1), 0);
        x.step(40);
        Check.is("done", x.status(0, 1), 1);
        // Job 4: wait waits for it, fg brings it in front.
        Check.type(x, 0, "3&3&3&4 90&\n");
        x.step(12);
        int four = x.job(0, 1, 4);
        Check.is("job 4", four != 0, true);
        Check.type(x, 0, "kill 3 2;kill 3 3;kill 3 4;wait;cd x\n");
        x.step(30);
        Check.text("it waits for job 4", Check.waits(x, 0, 0), "c1");
        x.step(90);
        Check.is("then it goes on", x.status(0, 1), 1);
        Check.type(x, 0, "3&3&3&4 20&\n");
        x.step(12);
        Check.type(x, 0, "fg 4\n");
        x.step(5);
        Check.is("in front", x.job(0, 1, 0) != 0 && x.job(0, 1, 4) == 0, true);
        x.step(30);
        Check.is("its status", x.status(0, 1), 4);
        // fg: just its own stopped processes get the signal 10.
        Check.type(x, 0, "kill 9 2;kill 9 3;fg 2\n");
        x.step(12);
        Check.is("one goes on", x.process(0, 3, 's'), 0);
        Check.is("the other one does not", x.process(0, 2, 's'), 1);
    }

    /** "they are gone for good, the status is what the last one of its pipe, from the left, ended with". */
    private static void lastOfAPipe() {
        // The process 1 is a child of a shell that has another number.
        x = Check.driven(0);
        x.login(0, 0);
        x.does(0, 0, 22, 0, 0, 0);
        Check.program(x, 3, 22, 33, 0, 0);
        Check.program(x, 4, 33, 9, 0, 0, 22, 44, 0, 0);
        Check.type(x, 0, "3|4\n");
        x.step(4);
        Check.is("1 and 3", x.job(0, 2, 0), 2 + 8);
        x.step(30);
        Check.is("the last one", x.status(0, 2), 44);
        Check.fails("gone for good", Check.INDEX, () -> x.process(0, 1, 's'));
        Check.type(x, 0, "4|3\n");
        x.step(30);
        Check.is("the last one", x.status(0, 2), 33);
        Check.type(x, 0, "3&\n");
        x.step(3);
        Check.is("1 is behind", x.job(0, 2, 1), 2);
        x.step(9);
        Check.type(x, 0, "\n");
        x.step(5);
        Check.is("over", x.job(0, 2, 1), 0);
        Check.program(x, 3, 33, 99, 0, 0);
        Check.type(x, 0, "3\n");
        x.step(5);
        int from = x.events();
        Check.type(x, 0, "\u001a");
        Check.text("the signal 9 to 1", Check.events(x, from), "s109");
        x.step(2);
        Check.is("behind", x.job(0, 2, 1), 2);
        Check.type(x, 0, "fg 1\n");
        x.step(4);
        Check.is("in front, and goes on", x.job(0, 2, 0) * 10 + x.process(0, 1, 's'), 20);
    }

    /** 7 simple commands in one pipe take all 6 pipes; 8 are a line, but there are not as many. */
    private static void longPipes() {
        start();
        line("echo a|cat|cat|cat|cat|cat|cat", "a\n", 0);
        line("echo a|cat|cat|cat|cat|cat|cat|cat", "?\n", 126);
        line("echo b|cat|cat|cat|cat|cat|cat", "b\n", 0);
    }

    /** "then, in place of reading keys, it reads cells up to a 10 or the end (52; where that waits it waits, ..)". */
    private static void scriptsThatWait() {
        start();
        Check.program(x, 2, 22, 2, 0, 0);
        write("2");
        line("sh w", "", 2);
        write("cd x\n\n2");
        line("sh w", "", 2);
        write("sync\n");
        line("sync", "", 0);
        line("sh w", "", 0);
        x.step(100);
        x.crash(0);
        x.boot(0);
        x.login(0, 0);
        seen = Check.shown(x, 0).length();
        long reads = x.account(0, 0, 'r');
        Check.type(x, 0, "sh w\n");
        for (int i = 0; i < 30 && !Check.waits(x, 0, 1).startsWith("b"); i++) {
            x.step(1);
        }
        Check.text("it waits for the block", Check.waits(x, 0, 1).substring(0, 1), "b");
        x.step(60);
        Check.is("done", x.status(0, 1), 0);
        Check.is("the account", x.account(0, 0, 'r') - reads, 1);
        // 80 cells without a 10 are one line of 40.
        StringBuilder text = new StringBuilder("exit 7");
        while (text.length() < 80) {
            text.append(' ');
        }
        write(text.toString());
        line("sh w", "", 7);
    }

    public static void main(String[] args) {
        atFirst();
        signs();
        words();
        commandsOfWords();
        lines();
        joins();
        fortyCharacters();
        assignments();
        builtins();
        exits();
        programs();
        values();
        arguments();
        noRoom();
        stopped();
        waiting();
        scripts();
        scriptsThatGrow();
        logins();
        shellsOneBehindTheOther();
        theFirstOpenFile();
        filesThatAreClosed();
        rightsOfFiles();
        children();
        behind();
        lastOfAPipe();
        longPipes();
        scriptsThatWait();
        Check.end("BoundsShellTest");
    }
}
