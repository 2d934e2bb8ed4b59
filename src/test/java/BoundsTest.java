/** Each sentence of the document that names a boundary: the value at it, the one beyond, and what is refused. */
final class BoundsTest {
    private BoundsTest() {
    }

    public static void main(String[] args) {
        Bounds b = new Bounds();
        new BoundTexts(b).all();
        new BoundTape(b).all();
        new BoundActs(b).all();
        new BoundNights(b).all();
        new BoundPlans(b).all();
        new BoundMorning(b).all();
        b.finish("BoundsTest");
    }
}
