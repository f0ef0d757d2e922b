/** What README.md tells of the use of the class. */
public final class ReadmeTest {
    private static int wrong;
    private static int answers;

    private static void due(String call, long got, long want) {
        answers++;
        if (got != want) {
            wrong++;
            System.out.println(call + " answered " + got + ", due is " + want);
        }
    }

    public static void main(String[] args) {
        KernelWorks x = new KernelWorks();
        int process = x.spawn(0, 0, -1);
        due("spawn", process, 1);
        int file = x.does(0, 0, 50, 1, 1, 7);
        due("50", file, 0);
        due("53", x.does(0, 0, 53, 2, file, 42), 1);
        due("64", x.does(0, 0, 64, 3, 0, 0), 0);

        due("rows", x.rows(0, 0, 1, 0, 6, 0, 4, 0, 1000, 7), 2);
        due("rows", x.rows(0, 2, 22, 1000, 0, 0, -1, 0, 0, 0), 3);
        due("spawn", x.spawn(0, 1, 0), 2);
        x.step(3);
        due("event n", x.event(x.events() - 1, 'n'), 2042);
        due("event s", x.event(x.events() - 1, 's'), 'e');

        x.crash(0);
        x.boot(0);
        due("content", x.content(0, x.find(0, 1), 0), 42);

        int shell = x.login(0, 0);
        due("type", x.type(0, 0x6563686f2068690aL, 0, 0, 0, 0), 8);
        x.step(60);
        due("shown", x.shown(0, 0), 'h');
        due("shown", x.shown(0, 1), 'i');
        due("status", x.status(0, shell), 0);
        due("isSound", x.isSound() ? 1 : 0, 1);

        System.out.println("ReadmeTest: " + answers + " answers, " + wrong + " wrong");
        if (wrong > 0) {
            System.exit(1);
        }
    }
}
