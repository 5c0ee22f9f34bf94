import java.io.IOException;

/** The boundary cases: a test for each sentence of the document that names one. */
public final class BoundsTest {
    public static void main(String[] args) throws IOException {
        Document.open();
        GeneralBounds.test();
        FormulaBounds.test();
        SummariesBounds.test();
        ItemsBounds.test();
        EstimatesBounds.test();
        TextsBounds.test();
        Document.close();
        Check.end();
    }
}
