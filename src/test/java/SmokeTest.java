/** placeholder, replaced below */
final class SmokeTest {
    public static void main(String[] args) {
        Check check = new Check("SmokeTest");
        check.due("build", Books.of(3, "abc", "").count(0), 5);
        check.finish();
    }
}
