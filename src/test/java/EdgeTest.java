/** Each sentence of the document at its edges: too small, too large, empty, full, wrapped around, refused. */
public final class EdgeTest {
    public static void main(String[] args) {
        EdgeText.run();
        EdgeDays.run();
        EdgePlans.run();
        EdgeSlots.run();
        EdgeChance.run();
        EdgeActs.run();
        Edges.close();
    }
}
