/** Promises 1 to 5: a new object, row, set, copy, drop; and 36, status, with them. */
public final class RowsTest {
    private static final int BAD = GearRoad.BAD;
    private static final int NULL = -1000011, PLACE = -1000012, SIZE = -1000014, STORE = -1000015;

    public static void main(String[] args) {
        aNewObject();
        row();
        set();
        copy();
        drop();
        status();
        Due.end();
    }

    /**
     * What an ITEM is, of 0, 51, 56 .. 201: no call tells ITEMS, so it is copied into row 7, and the BIKE
     * "b99;k20;p10;s0;" says of which COG these are the TURNS (5 times its teeth, and 1).
     */
    private static int item(GearRoad x, int row, int i, int lane) {
        x.row(7, lane, 1);
        x.copy(row, i, 7, 0, 1);
        int teeth = x.fits(7, 0, 1, 2);
        if (teeth != GearRoad.NONE) return 5 * teeth + 1;
        return x.fits(7, 0, 1, 3) == 19 ? 0 : -1;
    }

    private static void aNewObject() {
        GearRoad x = new GearRoad();
        for (int what = 0; what <= 9; what++) Due.due("new: count(" + what + ")", x.count(what), 0);
        Due.due("new: status()", x.status(), 0);
        Due.due("new: fault()", x.fault(), 0);
        Due.due("new: trace(0)", x.trace(0), GearRoad.NONE);
        Due.due("new: about()", x.about(), GearRoad.STATE);
        Due.due("new: undo()", x.undo(), GearRoad.STATE);
        for (int row = 0; row < 8; row++) Due.due("new: drop", x.drop(row), NULL);
    }

    private static void row() {
        GearRoad x = new GearRoad();
        Due.due("row(0, 0, 0)", x.row(0, 0, 0), 0);
        Due.due("row(7, 2, 40)", x.row(7, 2, 40), 40);
        Due.due("count(0)", x.count(0), 2);
        Due.due("row(8, ..)", x.row(8, 0, 1), BAD);
        Due.due("row(-1, ..)", x.row(-1, 0, 1), BAD);
        Due.due("row lane 3", x.row(0, 3, 1), BAD);
        Due.due("row lane -1", x.row(0, -1, 1), BAD);
        Due.due("row n 41", x.row(0, 0, 41), BAD);
        Due.due("row n -1", x.row(0, 0, -1), SIZE);
        Due.due("row n least", x.row(1, 0, Integer.MIN_VALUE), SIZE);
        Due.due("row bad lane ahead of SIZE", x.row(0, 3, -1), BAD);
        Due.due("row 1 is missing yet", x.drop(1), NULL);
        Due.due("row 0 is as it was", x.drop(0), 0);
        Due.due("row(7, 0, 3) in place of 40", x.row(7, 0, 3), 3);
        Due.due("set(7, 3, 1)", x.set(7, 3, 1), PLACE);
        Due.due("drop(7)", x.drop(7), 3);
        Due.due("count(0) at last", x.count(0), 0);
        itemsAreZeroAnew();
    }

    private static void itemsAreZeroAnew() {
        GearRoad x = Due.bike("b99;k20;p10;s0;");
        x.row(0, 2, 2);
        x.set(0, 1, 51);
        Due.due("item before", item(x, 0, 1, 2), 51);
        x.row(0, 2, 2);
        Due.due("item of a new row", item(x, 0, 1, 2), 0);
        x.set(0, 1, 56);
        x.drop(0);
        x.row(0, 1, 2);
        Due.due("item behind drop", item(x, 0, 1, 1), 0);
    }

    private static void set() {
        GearRoad x = new GearRoad();
        x.row(0, 0, 4);
        x.row(1, 1, 4);
        x.row(2, 2, 4);
        int[][] rows = {{0, 127, 127}, {0, 128, -128}, {0, 255, -1}, {0, 256, 0}, {0, -129, 127}, {1, 32767, 32767},
            {1, 32768, -32768}, {1, 65535, -1}, {1, 70000, 4464}, {1, -32769, 32767},
            {2, Integer.MAX_VALUE, Integer.MAX_VALUE}, {2, Integer.MIN_VALUE, Integer.MIN_VALUE}};
        for (int[] r : rows) Due.due("set(" + r[0] + ", 3, " + r[1] + ")", x.set(r[0], 3, r[1]), r[2]);
        Due.due("set(8, ..)", x.set(8, 0, 0), BAD);
        Due.due("set(-1, ..)", x.set(-1, 0, 0), BAD);
        Due.due("set missing", x.set(3, 9, 0), NULL);
        Due.due("set(0, -1, ..)", x.set(0, -1, 0), PLACE);
        Due.due("set(0, 4, ..)", x.set(0, 4, 0), PLACE);
        Due.due("set(0, most, ..)", x.set(0, Integer.MAX_VALUE, 0), PLACE);
        x.row(3, 0, 0);
        Due.due("set in an empty row", x.set(3, 0, 0), PLACE);
    }

    private static void copy() {
        GearRoad x = Due.bike("b99;k20;p10;s0;");
        x.row(0, 1, 5);
        x.row(1, 1, 3);
        x.row(2, 2, 3);
        for (int i = 0; i < 5; i++) x.set(0, i, 51 + 5 * i);
        Due.due("copy on itself, up", x.copy(0, 0, 0, 1, 4), 4);
        int[] up = {51, 51, 56, 61, 66};
        for (int i = 0; i < 5; i++) Due.due("up item " + i, item(x, 0, i, 1), up[i]);
        Due.due("copy on itself, down", x.copy(0, 2, 0, 0, 3), 3);
        int[] down = {56, 61, 66, 61, 66};
        for (int i = 0; i < 5; i++) Due.due("down item " + i, item(x, 0, i, 1), down[i]);
        Due.due("copy to another", x.copy(0, 1, 1, 0, 3), 3);
        int[] other = {61, 66, 61};
        for (int i = 0; i < 3; i++) Due.due("other item " + i, item(x, 1, i, 1), other[i]);
        Due.due("copy of none at the ends", x.copy(0, 5, 1, 3, 0), 0);
        copyRefusals(x);
        for (int i = 0; i < 5; i++) Due.due("unchanged item " + i, item(x, 0, i, 1), down[i]);
        for (int i = 0; i < 3; i++) Due.due("unchanged other " + i, item(x, 1, i, 1), other[i]);
    }

    private static void copyRefusals(GearRoad x) {
        int most = Integer.MAX_VALUE;
        Due.due("copy from row 8", x.copy(8, 0, 0, 0, 1), BAD);
        Due.due("copy to row -1", x.copy(0, 0, -1, 0, 1), BAD);
        Due.due("copy BAD ahead of NULL", x.copy(5, 0, 8, 0, 1), BAD);
        Due.due("copy from a missing one", x.copy(5, 0, 0, 0, 1), NULL);
        Due.due("copy to a missing one", x.copy(0, -1, 5, 0, 1), NULL);
        Due.due("copy STORE ahead of PLACE", x.copy(0, -1, 2, 0, 99), STORE);
        Due.due("copy STORE of none", x.copy(0, 0, 2, 0, 0), STORE);
        Due.due("copy i below 0", x.copy(0, -1, 1, 0, 1), PLACE);
        Due.due("copy j below 0", x.copy(0, 0, 1, -1, 1), PLACE);
        Due.due("copy n below 0", x.copy(0, 1, 1, 1, -1), PLACE);
        Due.due("copy beyond a", x.copy(1, 1, 0, 0, 3), PLACE);
        Due.due("copy beyond b", x.copy(0, 0, 1, 1, 3), PLACE);
        Due.due("copy of none beyond a", x.copy(0, 6, 1, 0, 0), PLACE);
        Due.due("copy of none beyond b", x.copy(0, 0, 1, 4, 0), PLACE);
        Due.due("copy with a sum that wraps", x.copy(0, most, 1, 0, most), PLACE);
        Due.due("copy with most", x.copy(0, 1, 1, 0, most), PLACE);
    }

    private static void drop() {
        GearRoad x = new GearRoad();
        x.row(3, 0, 12);
        x.row(4, 0, 0);
        Due.due("drop(3)", x.drop(3), 12);
        Due.due("drop(3) again", x.drop(3), NULL);
        Due.due("drop(4)", x.drop(4), 0);
        Due.due("drop(8)", x.drop(8), BAD);
        Due.due("drop(-1)", x.drop(-1), BAD);
        Due.due("count(0)", x.count(0), 0);
    }

    private static void status() {
        GearRoad x = Due.bike("b99;k20;p10;s0;");
        x.row(0, 0, -1);
        Due.due("status of SIZE", x.status(), 4);
        x.row(8, 0, 0);
        x.set(8, 0, 0);
        x.copy(8, 0, 0, 0, 0);
        x.drop(-1);
        x.fits(0, 0, 0, 0);
        x.as(9, 0);
        x.feed(300);
        x.ride();
        Due.due("status behind what is BAD, or has no ROW", x.status(), 4);
        x.row(0, 0, 2);
        Due.due("status of a good row()", x.status(), 0);
        x.set(1, 0, 0);
        Due.due("status of NULL", x.status(), 1);
        x.set(0, 0, 0);
        Due.due("status of a good set()", x.status(), 0);
        x.set(0, 2, 0);
        Due.due("status of PLACE", x.status(), 2);
        x.copy(0, 0, 0, 1, 1);
        Due.due("status of a good copy()", x.status(), 0);
        x.as(0, 2);
        Due.due("status of KIND", x.status(), 3);
        x.as(0, 1);
        Due.due("status of a good as()", x.status(), 0);
        x.row(1, 1, 2);
        x.copy(0, 0, 1, 0, 1);
        Due.due("status of STORE", x.status(), 5);
        x.drop(1);
        Due.due("status of a good drop()", x.status(), 0);
        x.fits(1, 0, 1, 0);
        Due.due("status of fits() of a missing one", x.status(), 1);
        x.set(0, 0, 7);
        x.drop(1);
        Due.due("status ahead of fits()", x.status(), 1);
        Due.due("fits() of none", x.fits(0, 0, 1, 2), GearRoad.NONE);
        Due.due("status of fits() that answers NONE", x.status(), 0);
        x.fits(0, 2, 1, 2);
        Due.due("status of fits() beyond", x.status(), 2);
        GearRoad none = new GearRoad();
        none.drop(0);
        Due.due("fits() without a BIKE", none.fits(0, 0, 1, 0), GearRoad.STATE);
        Due.due("status behind STATE", none.status(), 1);
    }
}
