public final class PromiseTest {
    public static void main(String[] args) {
        Checks checks = new Checks();
        checks.due("size(0)", new TangramBoard().size(0), 8);
        checks.end();
    }
}
