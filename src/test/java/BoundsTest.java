import java.io.IOException;

/** Each sentence of the document that names a boundary, promise by promise, with a test of its own. */
public final class BoundsTest {
    private BoundsTest() {
    }

    public static void main(String[] args) throws IOException {
        BoundsOfGround.all();
        BoundsOfLode.all();
        BoundsOfClaims.all();
        BoundsOfDitches.all();
        BoundsOfMill.all();
        BoundsOfWhole.all();
        BoundsOfSound.all();
        Sentences.areThoseOfTheDocument();
        Checks.end();
    }
}
