/** Stands only until the tests of the promises do. */
public final class SmokeTest {
    public static void main(String[] args) {
        Due due = new Due("SmokeTest");
        due.is("count(0)", new CopiedFire().count(0), 0);
        due.end();
    }
}
