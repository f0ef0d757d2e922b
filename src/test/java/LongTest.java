/** All 20000 ticks, with a printer that cannot keep up and a server that cannot get done. */
public final class LongTest {
    public static void main(String[] args) {
        KernelWorks x = new KernelWorks();
        Check.program(x, 0, 71, 1, 65, 0, 71, 1, 66, 0, 71, 1, 67, 0, 71, 1, 0, 0, 8, 0, 0, 0);
        // 1 asks for a far file again and again, as 2 interrupts it each time.
        Check.program(x, 1, 28, 0, 11, 3, 85, 1, 1, 1, 8, 1, 0, 0, 30, 0, 0, 0);
        Check.program(x, 2, 27, 0, 1, 11, 8, 0, 0, 0);
        x.spawn(0, 0, 0);
        x.spawn(1, 0, -1);
        x.does(1, 0, 50, 0, 1, 7);
        for (int b = 0; b < 10; b++) {
            x.does(1, 0, 54, 1, 0, 8 * b);
            if (x.does(1, 0, 53, 1, 0, 5) == -1000) {
                x.step(60);
            }
        }
        Check.is("ten blocks and their numbers", x.does(1, 0, 60, 1, 1, 6), 11);
        x.spawn(2, 0, 1);
        x.spawn(2, 0, 2);
        while (x.time() <= 19600) {
            x.step(400);
        }
        x.step(20000 - x.time());
        Check.is("printed each other tick", x.printed(0, 199), 65 + (20000 / 2 - 2 - 1) % 3);
        Check.is("the server is not done", x.leases(1, 1), 0);
        Check.is("accounts", x.account(0, 0, 't'), 20000);
        Check.is("busyShare", x.busyShare(0), 1.0);
        Check.is("isSound", x.isSound(), true);
        Check.fails("step", Check.STATE, () -> x.step(1));
        Check.end("LongTest");
    }
}
