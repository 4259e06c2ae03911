import java.io.IOException;
import java.util.ArrayList;
import java.util.Comparator;
import java.util.List;

/** The terms of the cloth, and of orders and the top, a test for each sentence. */
public final class ClothAndOrderTermsTest {
    private static final String CLOTH = "The cloth";
    private static final String ORDERS = "Orders and the top";

    public static void main(String[] args) throws IOException {
        Sentences terms = new Sentences(CLOTH, ORDERS);
        cells(terms);
        spills(terms);
        puddles(terms);
        endsOfSittings(terms);
        disagreements(terms);
        bestOrders(terms);
        tops(terms);
        terms.end();
    }

    private static void cells(Sentences terms) {
        terms.test(CLOTH, "The cloth has 8 rows and 8 columns, numbered from 0; each cell is dry or wet, initially dry.",
                check -> {
            TeaspoonSalon salon = new TeaspoonSalon();
            for (int row = -1; row <= 8; row++) {
                for (int column = -1; column <= 8; column++) {
                    int r = row;
                    int c = column;
                    boolean isThere = row >= 0 && row < 8 && column >= 0 && column < 8;
                    Object want = isThere ? (Object) false : "throws IndexOutOfBoundsException";
                    check.due("isWet " + row + " " + column, want, Check.answerOf(() -> salon.isWet(r, c)));
                }
            }
            for (int corner = 0; corner < 4; corner++) {
                salon.spill(corner / 2 * 7, corner % 2 * 7, 1);
                check.due("a corner", true, salon.isWet(corner / 2 * 7, corner % 2 * 7));
            }
            check.due("wetCells", 4, salon.wetCells());
        });
    }

    private static void spills(Sentences terms) {
        terms.test(CLOTH, "A spill at a cell makes cells wet one after the other: always the dry cell with the smallest "
                + "sum of the differences of row and column to that cell, of several the one with the lower row, and of "
                + "several of these the one with the lower column.", check -> {
            for (int start = 0; start < 64; start++) {
                for (int cells = 1; cells <= 30; cells++) {
                    TeaspoonSalon salon = new TeaspoonSalon();
                    check.due("on a dry cloth", cells, salon.spill(start / 8, start % 8, cells));
                    check.due("cells", wettest("", start, cells), wetCells(salon));
                }
                TeaspoonSalon salon = new TeaspoonSalon();
                salon.spill(3, 4, 11);
                salon.spill(7, 0, 4);
                String before = wetCells(salon);
                salon.spill(start / 8, start % 8, 13);
                check.due("beside wet cells", wettest(before, start, 13), wetCells(salon));
                TeaspoonSalon filled = new TeaspoonSalon();
                String wet = "";
                for (int spill = 0; spill < 5; spill++) {
                    wet = wettest(wet, start, 15);
                    filled.spill(start / 8, start % 8, 15);
                    check.due("up to the farthest", wet, wetCells(filled));
                }
            }
        });
    }

    /** A letter for each cell. */
    private static String wetCells(TeaspoonSalon salon) {
        StringBuilder cells = new StringBuilder();
        for (int cell = 0; cell < 64; cell++) {
            if (salon.isWet(cell / 8, cell % 8)) {
                cells.append((char) ('0' + cell));
            }
        }
        return cells.toString();
    }

    /** The numbers of cells rise with the rows, then with the columns, and the sort keeps them so. */
    private static String wettest(String before, int start, int count) {
        List<Integer> dry = new ArrayList<>();
        for (int cell = 0; cell < 64; cell++) {
            if (before.indexOf('0' + cell) < 0) {
                dry.add(cell);
            }
        }
        dry.sort(Comparator.comparing(cell -> Math.abs(cell / 8 - start / 8) + Math.abs(cell % 8 - start % 8)));
        StringBuilder after = new StringBuilder();
        for (int cell = 0; cell < 64; cell++) {
            int place = dry.indexOf(cell);
            if (place < count) {
                after.append((char) ('0' + cell));
            }
        }
        return after.toString();
    }

    private static void puddles(Sentences terms) {
        terms.test(CLOTH, "A puddle consists of wet cells that are connected by cells with a common side.", check -> {
            int[][] apart = {{0, 0, 1, 1}, {0, 1, 1, 0}, {0, 7, 1, 0}, {0, 0, 7, 0}, {0, 0, 0, 7}, {7, 7, 0, 0}, {3, 7, 5, 0},
                {0, 0, 0, 2}, {0, 0, 2, 0}, {6, 7, 7, 0}};
            int[][] joined = {{0, 0, 0, 1}, {0, 0, 1, 0}, {7, 7, 6, 7}, {7, 7, 7, 6}, {3, 3, 3, 4}, {4, 3, 3, 3}};
            for (int[] cells : apart) {
                expectPuddles(check, withCells(cells), cells, 1, 2);
            }
            for (int[] cells : joined) {
                expectPuddles(check, withCells(cells), cells, 2, 1);
            }
            int[] around = {2, 2, 2, 3, 2, 4, 3, 4, 4, 4, 4, 3, 4, 2, 3, 2};
            TeaspoonSalon ring = withCells(around);
            expectPuddles(check, ring, around, 8, 1);
            check.due("within the ring", "0 0", ring.puddle(3, 3) + " " + ring.puddleByGroups(3, 3));
            int[] comb = {0, 0, 0, 2, 0, 4, 1, 0, 1, 2, 1, 4, 2, 0, 2, 1, 2, 2, 2, 3, 2, 4};
            expectPuddles(check, withCells(comb), comb, 11, 1);
        });
    }

    private static TeaspoonSalon withCells(int[] cells) {
        TeaspoonSalon salon = new TeaspoonSalon();
        for (int i = 0; i + 1 < cells.length; i += 2) {
            salon.spill(cells[i], cells[i + 1], 1);
        }
        return salon;
    }

    private static void expectPuddles(Check check, TeaspoonSalon salon, int[] cells, int size, int count) {
        for (int i = 0; i + 1 < cells.length; i += 2) {
            check.due("puddle", size, salon.puddle(cells[i], cells[i + 1]));
            check.due("puddleByGroups", size, salon.puddleByGroups(cells[i], cells[i + 1]));
        }
        check.due("largestPuddle", size, salon.largestPuddle());
        check.due("puddleCount", count, salon.puddleCount());
        check.due("isConsistent", true, salon.isConsistent());
        check.due("mop", size, salon.mop(cells[0], cells[1]));
        check.due("wetCells", cells.length / 2 - size, salon.wetCells());
    }

    private static void endsOfSittings(Sentences terms) {
        terms.test(CLOTH, "If the largest puddle has 20 cells or more after a spill, the sitting ends as by a motion to "
                + "adjourn, also if the puddle was as large before.", check -> {
            for (int cells = 18; cells <= 22; cells++) {
                TeaspoonSalon salon = debating();
                salon.spill(4, 4, cells);
                check.due(cells + " cells", cells < 20 ? DEBATE : ADJOURNED, debate(salon));
            }
            TeaspoonSalon growing = debating();
            growing.spill(4, 4, 19);
            growing.spill(0, 0, 1);
            check.due("19 and 1 cells apart", DEBATE, debate(growing));
            growing.spill(4, 4, 1);
            check.due("the 20th", ADJOURNED, debate(growing));
            growing.moveMain(0);
            growing.spill(0, 0, 1);
            check.due("a spill elsewhere", "2 0", growing.sittings() + " " + growing.motionCount());
            growing.spill(0, 0, 1);
            check.due("with an empty table", 3, growing.sittings());
            growing.mop(4, 4);
            growing.spill(0, 0, 1);
            check.due("after a mop", 3, growing.sittings());
            TeaspoonSalon full = new TeaspoonSalon();
            Setting.run(full, "spill 00 30;spill 77 30;spill 33 30;spill 33 1");
            check.due("a full cloth", "64 4", full.wetCells() + " " + full.sittings());
        });
    }

    private static final String DEBATE = "0 m0! 1 true 0@50,1@60";
    private static final String ADJOURNED = "1  0 false 0@50,1@60";

    private static TeaspoonSalon debating() {
        TeaspoonSalon salon = Setting.propose(Setting.withSpoons(1, 50), 50, 60);
        salon.moveMain(0);
        salon.speak(0);
        salon.moveClosure();
        salon.vote();
        return salon;
    }

    private static String debate(TeaspoonSalon salon) {
        return salon.sittings() + " " + Setting.table(salon) + " " + salon.speeches(0) + " " + salon.isClosed() + " "
                + Setting.list(salon);
    }

    private static void expectOrder(Check check, TeaspoonSalon salon, int fewest, String order) {
        StringBuilder best = new StringBuilder();
        for (int place = 0; place < salon.proposalCount(); place++) {
            best.append(salon.bestOrder(place));
        }
        check.due("bestOrder", order, best.toString());
        check.due("fewestDisagreements", fewest, salon.fewestDisagreements());
        check.due("fewestDisagreementsByOrders", fewest, salon.fewestDisagreementsByOrders());
    }

    private static void disagreements(Sentences terms) {
        terms.test(ORDERS, "An order of the proposals on the list has for each two proposals a disagreement, which is the "
                + "support of the later one against the earlier one.", check -> {
            expectOrder(check, Setting.propose(Setting.withSpoons(5, 10, 3, 90), 10, 90), 3, "01");
            expectOrder(check, Setting.propose(Setting.withSpoons(3, 10, 5, 90), 10, 90), 3, "10");
            expectOrder(check, Setting.propose(Setting.withSpoons(3, 50, 5, 90), 40, 60), 0, "10");
            expectOrder(check, Setting.propose(Setting.withSpoons(3, 20, 4, 60, 2, 90), 40, 75, 10), 9, "102");
        });
    }

    private static void bestOrders(Sentences terms) {
        terms.test(ORDERS, "The best order is the one with the smallest sum of disagreements, and of several the one that "
                + "has the lower id at the first place at which they differ.", check -> {
            expectOrder(check, new TeaspoonSalon(), 0, "");
            expectOrder(check, Setting.propose(Setting.withSpoons(9, 50), 50), 0, "0");
            expectOrder(check, Setting.withList(9, 8, 7, 6, 5, 4), 0, "012345");
            expectOrder(check, Setting.propose(Setting.withSpoons(9, 3), 50, 50, 50), 0, "012");
            TeaspoonSalon equalLater = Setting.propose(Setting.withSpoons(3, 40, 3, 50, 1, 95, 4, 20), 65, 75, 5, 55, 85);
            expectOrder(check, equalLater, 22, "30124");
            TeaspoonSalon notByPlaces = Setting.propose(Setting.withSpoons(5, 10, 5, 95, 4, 60, 5, 5), 80, 65, 70, 40);
            expectOrder(check, notByPlaces, 38, "3120");
            TeaspoonSalon turned = Setting.propose(Setting.withSpoons(1, 90, 1, 0), 40, 45, 50);
            Setting.move(turned, "mp").vote();
            check.due("the list", "1@45,2@50,0@40", Setting.list(turned));
            expectOrder(check, turned, 3, "012");
        });
    }

    private static String top(TeaspoonSalon salon) {
        StringBuilder top = new StringBuilder();
        StringBuilder bySets = new StringBuilder();
        for (int id = 0; id < 6; id++) {
            int proposal = id;
            if (Boolean.TRUE.equals(Check.answerOf(() -> salon.isInTop(proposal)))) {
                top.append(id);
            }
            if (Boolean.TRUE.equals(Check.answerOf(() -> salon.isInTopBySets(proposal)))) {
                bySets.append(id);
            }
        }
        return top + " " + bySets;
    }

    private static void tops(Sentences terms) {
        terms.test(ORDERS, "The top of the list is the smallest set of proposals that is not empty and in which every "
                + "proposal beats all proposals on the list outside the set.", check -> {
            check.due("a list of one", "0 0", top(Setting.withList(5)));
            check.due("nobody beats", "012345 012345", top(Setting.withList(1, 2, 3, 4, 5, 6)));
            check.due("one beats all", "2 2", top(Setting.propose(Setting.withSpoons(1, 50), 1, 2, 50, 60, 70, 80)));
            check.due("two of four", "13 13", top(Setting.propose(Setting.withSpoons(4, 55), 70, 60, 95, 50)));
            TeaspoonSalon salon = Setting.propose(Setting.withSpoons(2, 75, 1, 80, 3, 90), 95, 50, 90, 10, 75);
            check.due("4 does not beat 0, nor 0 and 2 it", "024 024", top(salon));
            check.due("2 beats 0, but both are in", true, salon.support(2, 0) > salon.support(0, 2));
            salon.moveMain(4);
            salon.vote();
            check.due("without 4", "2 2", top(salon));
        });
    }
}
