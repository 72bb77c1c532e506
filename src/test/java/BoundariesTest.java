import java.io.IOException;

/**
 * For each sentence of the document a test of its own, at the boundaries that the sentence names and on
 * both of their sides. It fails, too, if a sentence has none.
 */
public final class BoundariesTest {
    private BoundariesTest() { }

    public static void main(String[] args) throws IOException {
        Boundary due = new Boundary();
        new WhatItIs(due).ask();
        new SpaceTerms(due).ask();
        new CountTerms(due).ask();
        new WallPromises(due).ask();
        new FacePromises(due).ask();
        new PolynomialPromises(due).ask();
        new RoomPromises(due).ask();
        new CountPromises(due).ask();
        due.end();
    }
}
