/** Each sentence of the document that names a boundary, one test for each: see Bound; "all" lists them. */
final class BoundsTest {
    private BoundsTest() {
    }

    public static void main(String[] args) {
        BoundsOfTexts.run();
        BoundsOfTalks.run();
        BoundsOfMinutes.run();
        BoundsOfCalls.run();
        Bound.close(args.length > 0);
        Due.close("BoundsTest");
    }
}
