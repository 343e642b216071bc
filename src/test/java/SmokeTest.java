public final class SmokeTest {
    public static void main(String[] args) {
        if (new ShadowTwin().count(3) != 5) {
            System.exit(1);
        }
    }
}
