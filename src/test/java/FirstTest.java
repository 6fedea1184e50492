/** A first test, until the promises have their own. */
final class FirstTest {
    public static void main(String[] args) {
        Check check = new Check("FirstTest");
        check.that("cells", new SlownessImager().begin(5, 3), 15);
        check.end();
    }
}
