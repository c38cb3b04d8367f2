import java.io.IOException;

/** For each sentence of the document that names a boundary case a test of its own. */
public final class BoundsTest {
    private BoundsTest() {
    }

    public static void main(String[] args) throws IOException {
        Bounds.open();
        TextBounds.run();
        DeedBounds.run();
        AskBounds.run();
        ChanceBounds.run();
        UndoBounds.run();
        Bounds.everyPartIsQuoted();
        Check.end("BoundsTest");
    }
}
