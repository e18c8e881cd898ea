public final class PromiseTests {
    public static void main(String[] args) {
        LoveLocks x = new LoveLocks();
        if (x.count(0) != 0) { System.out.println("a new object has panels"); System.exit(1); }
    }
}
