/** Promises 1 to 4 and 14 to 18: the table. */
public final class TableTest {
    public static void main(String[] args) {
        Checks.due("a new room's phase", new CribbageRoom().count(0), 0);
        Checks.end("TableTest");
    }
}
