/** Promises 2 to 5, and 28 as far as rows go. */
public final class RowsTest {
    public static void main(String[] args) {
        rowsAreMade();
        itemsAreSet();
        itemsAreCopied();
        rowsAreDropped();
        statusIsKept();
        Check.end();
    }

    private static void rowsAreMade() {
        NightLoom x = new NightLoom();
        Check.due("row 7", x.row(7, 2, 40), 40);
        Check.due("row 0, empty", x.row(0, 0, 0), 0);
        Check.due("count", x.count(0), 2);
        Check.due("row 8", x.row(8, 0, 1), NightLoom.BAD);
        Check.due("row -1", x.row(-1, 0, 1), NightLoom.BAD);
        Check.due("lane 3", x.row(0, 3, 1), NightLoom.BAD);
        Check.due("lane -1", x.row(0, -1, 1), NightLoom.BAD);
        Check.due("41 items", x.row(0, 0, 41), NightLoom.BAD);
        Check.due("-1 items", x.row(0, 0, -1), Check.SIZE);
        Check.due("least items", x.row(0, 0, Integer.MIN_VALUE), Check.SIZE);
        Check.due("BAD ahead of SIZE", x.row(0, 3, -1), NightLoom.BAD);
        Check.due("what is found changes nothing", x.set(0, 0, 1), Check.PLACE);
        Check.due("the last place", x.set(7, 39, 9), 9);
        x.set(7, 0, 5);
        Check.due("made anew", x.row(7, 1, 3), 3);
        dueItems(x, 7, 0, 0, 0);
    }

    private static void itemsAreSet() {
        NightLoom x = new NightLoom();
        x.row(0, 0, 2);
        x.row(1, 1, 2);
        x.row(2, 2, 2);
        Check.due("byte", x.set(0, 0, 127), 127);
        Check.due("byte cut", x.set(0, 0, 128), -128);
        Check.due("byte cut low", x.set(0, 1, -129), 127);
        Check.due("short", x.set(1, 0, 32767), 32767);
        Check.due("short cut", x.set(1, 0, 32768), -32768);
        Check.due("int", x.set(2, 1, Integer.MIN_VALUE), Integer.MIN_VALUE);
        Check.due("no place", x.set(2, 2, 0), Check.PLACE);
        Check.due("no place", x.set(2, -1, 0), Check.PLACE);
        Check.due("no place", x.set(2, Integer.MAX_VALUE, 0), Check.PLACE);
        Check.due("missing", x.set(3, 0, 0), Check.NULL);
        Check.due("missing ahead of place", x.set(3, -1, 0), Check.NULL);
        Check.due("no row", x.set(8, 0, 0), NightLoom.BAD);
        Check.due("no row", x.set(-1, 0, 0), NightLoom.BAD);
    }

    private static void itemsAreCopied() {
        NightLoom x = new NightLoom();
        x.row(0, 0, 5);
        for (int i = 0; i < 5; i++) {
            x.set(0, i, i + 1);
        }
        Check.due("onto itself, up", x.copy(0, 0, 0, 1, 4), 4);
        dueItems(x, 0, 1, 1, 2, 3, 4);
        Check.due("onto itself, down", x.copy(0, 2, 0, 0, 3), 3);
        dueItems(x, 0, 2, 3, 4, 3, 4);
        x.row(1, 0, 3);
        Check.due("to another", x.copy(0, 2, 1, 1, 2), 2);
        dueItems(x, 1, 0, 4, 3);
        Check.due("none at the end", x.copy(0, 5, 1, 3, 0), 0);
        Check.due("none beyond", x.copy(0, 6, 1, 3, 0), Check.PLACE);
        Check.due("i below", x.copy(0, -1, 1, 0, 1), Check.PLACE);
        Check.due("j below", x.copy(0, 0, 1, -1, 1), Check.PLACE);
        Check.due("n below", x.copy(0, 0, 1, 0, -1), Check.PLACE);
        Check.due("n far below", x.copy(0, 0, 1, 0, Integer.MIN_VALUE), Check.PLACE);
        Check.due("beyond b", x.copy(0, 0, 1, 0, 4), Check.PLACE);
        Check.due("beyond a", x.copy(1, 1, 0, 0, 3), Check.PLACE);
        Check.due("far beyond", x.copy(0, Integer.MAX_VALUE, 1, 0, Integer.MAX_VALUE), Check.PLACE);
        x.row(2, 2, 3);
        Check.due("two lanes", x.copy(0, 0, 2, 0, 1), Check.STORE);
        Check.due("two lanes ahead of place", x.copy(0, -1, 2, 0, 1), Check.STORE);
        Check.due("missing ahead of lanes", x.copy(3, 0, 2, -1, 1), Check.NULL);
        Check.due("no row", x.copy(8, 0, 3, 0, 1), NightLoom.BAD);
        Check.due("no row", x.copy(3, 0, -1, 0, 1), NightLoom.BAD);
        dueItems(x, 1, 0, 4, 3);
    }

    /** The items of a row, by the one evening that fits each. */
    private static void dueItems(NightLoom x, int row, int... items) {
        Check.read(x, "l24,99,9,0,0,0;c0;");
        for (int i = 0; i < items.length; i++) {
            x.image(0);
            Check.act(x, items[i]);
            Check.due("item " + i + " of row " + row, x.seen(row, i, 1, 0), 1);
            x.restore(0);
        }
    }

    private static void rowsAreDropped() {
        NightLoom x = new NightLoom();
        x.row(4, 1, 17);
        Check.due("drop", x.drop(4), 17);
        Check.due("count", x.count(0), 0);
        Check.due("again", x.drop(4), Check.NULL);
        Check.due("no row", x.drop(8), NightLoom.BAD);
        Check.due("no row", x.drop(-1), NightLoom.BAD);
    }

    private static void statusIsKept() {
        NightLoom x = new NightLoom();
        Check.due("at first", x.status(), 0);
        x.set(0, 0, 0);
        Check.due("NULL", x.status(), 1);
        x.set(8, 0, 0);
        x.row(0, 3, 0);
        x.seen(0, 0, 1, 0);
        x.feed(1);
        x.feed(256);
        Check.due("still NULL", x.status(), 1);
        x.row(0, 0, 1);
        Check.due("none", x.status(), 0);
        x.set(0, 1, 0);
        Check.due("PLACE", x.status(), 2);
        x.row(0, 0, -1);
        Check.due("SIZE", x.status(), 4);
        x.row(1, 1, 1);
        x.copy(0, 0, 1, 0, 1);
        Check.due("STORE", x.status(), 5);
        x.drop(1);
        Check.due("none", x.status(), 0);
    }
}
