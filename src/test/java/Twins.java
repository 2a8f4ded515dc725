/** Two objects that were used alike: whether all that can be seen of them, now and by what is undone or restored, is the same. */
final class Twins {
    private Twins() {
    }

    /** What fault() and status() answer is left out, as they may change. It ends what both objects are used for. */
    static void same(String what, GearRoad x, GearRoad twin) {
        for (int i = 0; i <= 9; i++) Due.due(what + ": count(" + i + ")", x.count(i), twin.count(i));
        for (int i = 0; i <= 6; i++) Due.due(what + ": trace(" + i + ")", x.trace(i), twin.trace(i));
        sameBikes(what, x, twin);
        sameRows(what, x, twin);
        for (int n = 0; n <= 24 && twin.count(8) > 0; n++) {
            Due.due(what + ": undo()", x.undo(), twin.undo());
            sameBikes(what + ", undone", x, twin);
        }
        Due.due(what + ": undo() of none", x.undo(), twin.undo());
        Due.due(what + ": bike()", x.bike(), twin.bike());
        sameBikes(what + ", read", x, twin);
        for (int k = 0; k <= 1; k++) {
            Due.due(what + ": restore(" + k + ")", x.restore(k), twin.restore(k));
            sameBikes(what + ", restored", x, twin);
        }
    }

    private static void sameBikes(String what, GearRoad x, GearRoad twin) {
        for (int i = 1; i <= 8; i++) Due.due(what + ": count(" + i + ")", x.count(i), twin.count(i));
        for (int cog = 0; cog < twin.count(1); cog++) {
            Due.due(what + ": kind", x.kind(cog), twin.kind(cog));
            Due.due(what + ": teeth", x.cog(cog, 0), twin.cog(cog, 0));
            Due.due(what + ": turned", x.cog(cog, 1), twin.cog(cog, 1));
        }
        for (int ring = 0; ring < twin.count(2); ring++) Due.due(what + ": ring", x.ring(ring), twin.ring(ring));
        for (int piece = 0; piece < twin.count(3); piece++) Due.due(what + ": slope", x.piece(piece, 0), twin.piece(piece, 0));
    }

    /** ROWS with at most 6 ITEMS: what is missing, sizes, and which TURNS they tell. */
    private static void sameRows(String what, GearRoad x, GearRoad twin) {
        for (int row = 0; row <= 7; row++) {
            for (int n = 1; n <= 6; n++) Due.due(what + ": fits", x.fits(row, 0, n, 3), twin.fits(row, 0, n, 3));
            Due.due(what + ": lane", x.set(row, 0, 40000), twin.set(row, 0, 40000));
            Due.due(what + ": drop", x.drop(row), twin.drop(row));
        }
    }
}
