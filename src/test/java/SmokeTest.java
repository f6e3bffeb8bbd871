public final class SmokeTest {
    public static void main(String[] args) {
        Check check = new Check();
        CoinBoats x = Check.told("kind p 1 2 3;");
        check.due("kind(0, 2)", x.kind(0, 2), 3);
        check.finish();
    }
}
