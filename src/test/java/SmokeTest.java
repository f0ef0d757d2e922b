public final class SmokeTest {
    public static void main(String[] args) {
        if (new KernelWorks().time() != 0) {
            System.exit(1);
        }
    }
}
