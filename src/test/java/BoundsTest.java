/** Each sentence of the document that names a boundary case, with a test of its own. */
public final class BoundsTest {
    private BoundsTest() {
    }

    public static void main(String[] arguments) {
        HouseBounds.all();
        RowBounds.all();
        BroughtBounds.all();
        LedBounds.all();
        ChanceBounds.all();
        Bounds.complete();
        System.out.println(Bounds.wrongs() == 0 ? "all bounds hold" : Bounds.wrongs() + " answers are not as due");
        if (Bounds.wrongs() != 0) {
            System.exit(1);
        }
    }
}
