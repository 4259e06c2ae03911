/** Promises 11, 12, 37 to 42 and 46: tea on the cloth. */
public final class ClothTest {
    private static final Check CHECK = new Check();

    public static void main(String[] args) {
        wrongArguments();
        spillOrder();
        spillBesideWetCells();
        fullCloth();
        puddles();
        mop();
        endOfSitting();
        CHECK.end();
    }

    private static String cloth(TeaspoonSalon salon) {
        StringBuilder cloth = new StringBuilder();
        for (int row = 0; row < 8; row++) {
            for (int column = 0; column < 8; column++) {
                cloth.append(salon.isWet(row, column) ? '#' : '.');
            }
        }
        return cloth.toString();
    }

    private static void wrongArguments() {
        TeaspoonSalon salon = new TeaspoonSalon();
        int[][] outside = {{-1, 0}, {8, 0}, {0, -1}, {0, 8}, {Integer.MIN_VALUE, 0}, {0, Integer.MAX_VALUE}};
        for (int[] cell : outside) {
            int row = cell[0];
            int column = cell[1];
            CHECK.refused("spill", IndexOutOfBoundsException.class, () -> salon.spill(row, column, 0));
            CHECK.refused("mop", IndexOutOfBoundsException.class, () -> salon.mop(row, column));
            CHECK.refused("isWet", IndexOutOfBoundsException.class, () -> salon.isWet(row, column));
            CHECK.refused("puddle", IndexOutOfBoundsException.class, () -> salon.puddle(row, column));
            CHECK.refused("puddleByGroups", IndexOutOfBoundsException.class, () -> salon.puddleByGroups(row, column));
        }
        for (int cells : new int[] {0, 31, -1, Integer.MIN_VALUE, Integer.MAX_VALUE}) {
            CHECK.refused("spill", IllegalArgumentException.class, () -> salon.spill(0, 0, cells));
        }
        CHECK.due("dry", 0, salon.wetCells());
    }

    private static void spillOrder() {
        int[][] inOrder = {{3, 3}, {2, 3}, {3, 2}, {3, 4}, {4, 3}, {1, 3}, {2, 2}, {2, 4}, {3, 1}, {3, 5}, {4, 2}};
        for (int cells = 1; cells <= inOrder.length; cells++) {
            TeaspoonSalon salon = new TeaspoonSalon();
            CHECK.due("spill", cells, salon.spill(3, 3, cells));
            for (int i = 0; i < inOrder.length; i++) {
                CHECK.due("isWet of " + cells, i < cells, salon.isWet(inOrder[i][0], inOrder[i][1]));
            }
        }
        TeaspoonSalon corner = new TeaspoonSalon();
        corner.spill(7, 7, 30);
        CHECK.due("corner", ".......#......##......##", cloth(corner).substring(0, 24));
        CHECK.due("wetCells", 30, corner.wetCells());
    }

    private static void spillBesideWetCells() {
        TeaspoonSalon salon = new TeaspoonSalon();
        salon.spill(0, 0, 1);
        CHECK.due("at a wet cell", 2, salon.spill(0, 0, 1));
        CHECK.due("lower row", true, salon.isWet(0, 1));
        CHECK.due("then the next", 3, salon.spill(0, 0, 1));
        CHECK.due("higher row", true, salon.isWet(1, 0));
    }

    private static void fullCloth() {
        TeaspoonSalon salon = new TeaspoonSalon();
        salon.spill(0, 0, 30);
        salon.spill(0, 0, 30);
        CHECK.due("four are dry", 60, salon.wetCells());
        CHECK.due("fewer dry cells", 64, salon.spill(0, 0, 30));
        CHECK.due("no dry cell", 64, salon.spill(5, 5, 1));
        CHECK.due("sittings", 4, salon.sittings());
        CHECK.due("puddle", 64, salon.puddle(7, 0));
        CHECK.due("puddleByGroups", 64, salon.puddleByGroups(7, 0));
        CHECK.due("largestPuddle", 64, salon.largestPuddle());
        CHECK.due("puddleCount", 1, salon.puddleCount());
        CHECK.due("isConsistent", true, salon.isConsistent());
    }

    private static void puddles() {
        TeaspoonSalon salon = new TeaspoonSalon();
        int[][] wet = {{0, 7}, {1, 0}, {2, 2}, {3, 3}, {4, 0}, {4, 1}, {4, 2}, {3, 0}, {3, 2}};
        for (int[] cell : wet) {
            salon.spill(cell[0], cell[1], 1);
        }
        CHECK.due("puddleCount", 3, salon.puddleCount());
        CHECK.due("largestPuddle", 7, salon.largestPuddle());
        TeaspoonSalon one = new TeaspoonSalon();
        one.spill(0, 0, 1);
        CHECK.due("puddleCount of one cell", 1, one.puddleCount());
        CHECK.due("largestPuddle of one cell", 1, one.largestPuddle());
        CHECK.due("isConsistent", true, one.isConsistent());
        int[][] sizes = {{0, 7, 1}, {1, 0, 1}, {2, 2, 7}, {3, 0, 7}, {3, 3, 7}, {0, 0, 0}, {7, 7, 0}, {2, 3, 0}};
        for (int[] size : sizes) {
            CHECK.due("puddle", size[2], salon.puddle(size[0], size[1]));
            CHECK.due("puddleByGroups", size[2], salon.puddleByGroups(size[0], size[1]));
        }
        CHECK.due("isConsistent", true, salon.isConsistent());
    }

    private static void mop() {
        TeaspoonSalon salon = new TeaspoonSalon();
        salon.spill(0, 0, 3);
        salon.spill(2, 0, 1);
        salon.spill(1, 1, 1);
        CHECK.due("one puddle", 5, salon.puddle(2, 0));
        salon.spill(7, 7, 4);
        CHECK.refused("dry", IllegalStateException.class, () -> salon.mop(0, 7));
        CHECK.due("mop", 5, salon.mop(0, 1));
        CHECK.refused("dry now", IllegalStateException.class, () -> salon.mop(0, 1));
        CHECK.due("wetCells", 4, salon.wetCells());
        CHECK.due("mop", 4, salon.mop(7, 7));
        CHECK.due("wetCells", 0, salon.wetCells());
        CHECK.due("sittings", 0, salon.sittings());
    }

    private static void endOfSitting() {
        TeaspoonSalon salon = Setting.withSpoons(1, 50);
        salon.propose(50);
        salon.moveMain(0);
        salon.speak(0);
        salon.moveClosure();
        salon.vote();
        salon.spill(3, 3, 19);
        CHECK.due("19 cells", "m0!", Setting.table(salon));
        salon.mop(3, 3);
        salon.spill(0, 0, 10);
        salon.spill(7, 7, 10);
        CHECK.due("20 cells in two puddles", 0, salon.sittings());
        salon.mop(0, 0);
        salon.spill(7, 7, 10);
        CHECK.due("20 cells", 1, salon.sittings());
        CHECK.due("empty table", 0, salon.motionCount());
        CHECK.due("open", false, salon.isClosed());
        CHECK.due("speeches", 0, salon.speeches(0));
        CHECK.due("the list stays", "0@50", Setting.list(salon));
        salon.moveMain(0);
        salon.spill(0, 0, 1);
        CHECK.due("also if it was as large before", 2, salon.sittings());
        CHECK.due("empty table", 0, salon.motionCount());
        CHECK.due("the end was not a vote", 1.0f, salon.adoptedShare());
    }
}
