import java.io.IOException;
import java.util.NoSuchElementException;

/** The terms from the spoons to the effects of a vote, a test for each sentence. */
public final class DebateTermsTest {
    private static final String SPOONS = "Spoons and proposals";
    private static final String TABLE = "The table";
    private static final String SPEECHES = "Speeches";
    private static final String VOTES = "Votes";
    private static final String EFFECTS = "Effects";
    private static final String KINDS = "mapcj";

    public static void main(String[] args) throws IOException {
        Sentences terms = new Sentences(SPOONS, TABLE, SPEECHES, VOTES, EFFECTS);
        spoons(terms);
        proposals(terms);
        preferences(terms);
        motions(terms);
        whatCanBeMoved(terms);
        speeches(terms);
        votesByKind(terms);
        votesOfSpoonsThatDebate(terms);
        counts(terms);
        effectsOfMainMotions(terms);
        effectsOfOthers(terms);
        terms.end();
    }

    private static void spoons(Sentences terms) {
        terms.test(SPOONS, "At most 8 spoons have the indices 0 to n - 1 in the order in which they were added.", check -> {
            TeaspoonSalon salon = new TeaspoonSalon();
            for (int spoon = 0; spoon < 8; spoon++) {
                check.due("addSpoon", spoon, salon.addSpoon(8 - spoon, 90 + spoon));
            }
            check.refused("the ninth", IllegalStateException.class, () -> salon.addSpoon(1, 1));
            for (int spoon = 0; spoon < 8; spoon++) {
                check.due("weight", 8 - spoon, salon.weight(spoon));
                check.due("stance", 90 + spoon, salon.stance(spoon));
            }
            salon.undo();
            check.due("the eighth again", 7, salon.addSpoon(1, 1));
            check.refused("the ninth again", IllegalStateException.class, () -> salon.addSpoon(1, 1));
        });
        terms.test(SPOONS, "A spoon has a weight from 1 to 9, a stance from 0 to 99, and lumps of sugar, initially 5.",
                check -> {
            TeaspoonSalon salon = Setting.withSpoons(1, 0, 9, 99);
            int[][] outside = {{0, 0}, {10, 99}, {1, -1}, {9, 100}};
            for (int[] spoon : outside) {
                check.refused("addSpoon", IllegalArgumentException.class, () -> salon.addSpoon(spoon[0], spoon[1]));
            }
            check.due("least", "1 0 5", salon.weight(0) + " " + salon.stance(0) + " " + salon.sugar(0));
            check.due("most", "9 99 5", salon.weight(1) + " " + salon.stance(1) + " " + salon.sugar(1));
            salon.giveSugar(0, 9);
            salon.addSpoon(2, 2);
            check.due("sugar of a later one", 5, salon.sugar(2));
        });
    }

    private static void proposals(Sentences terms) {
        terms.test(SPOONS, "At most 6 proposals are on the list.", check -> {
            TeaspoonSalon salon = Setting.withList(1, 2, 3, 4, 5, 6);
            check.refused("the seventh", IllegalStateException.class, () -> salon.propose(7));
            salon.moveMain(2);
            check.refused("while it is debated", IllegalStateException.class, () -> salon.propose(7));
            salon.vote();
            check.due("in its stead", 6, salon.propose(7));
            check.due("list", "0@1,1@2,3@4,4@5,5@6,6@7", Setting.list(salon));
            check.refused("one more", IllegalStateException.class, () -> salon.propose(8));
        });
        terms.test(SPOONS, "Each proposal gets an id; the ids are consecutive and begin with 0.", check -> {
            TeaspoonSalon salon = new TeaspoonSalon();
            check.refused("no id is lost", IllegalArgumentException.class, () -> salon.propose(100));
            check.due("first", 0, salon.propose(10));
            check.due("second", 1, salon.propose(20));
            check.refused("no id is lost", IllegalStateException.class, () -> Setting.run(salon, "propose 1;vote"));
            check.due("third", 2, salon.propose(30));
            for (int id = 0; id < 3; id++) {
                salon.moveMain(id);
                salon.vote();
            }
            check.due("no id comes twice", 3, salon.propose(40));
            Setting.propose(salon, 1, 2, 3, 4, 5);
            check.refused("no id is lost", IllegalStateException.class, () -> salon.propose(6));
            salon.moveMain(3);
            salon.vote();
            check.due("after a full list", 9, salon.propose(7));
        });
        terms.test(SPOONS, "A proposal has a position from 0 to 99.", check -> {
            TeaspoonSalon salon = Setting.withList(0, 99);
            check.refused("too low", IllegalArgumentException.class, () -> salon.propose(-1));
            check.refused("too high", IllegalArgumentException.class, () -> salon.propose(100));
            check.due("list", "0@0,1@99", Setting.list(salon));
        });
    }

    private static void preferences(Sentences terms) {
        terms.test(SPOONS, "A spoon prefers the proposal whose position differs less from its stance; "
                + "if both differ equally, it prefers neither.", check -> {
            for (int stance : new int[] {0, 48, 49, 50, 51, 52, 99}) {
                TeaspoonSalon salon = Setting.propose(Setting.withSpoons(3, stance), 40, 60, 40);
                check.due("40 at " + stance, stance < 50 ? 3 : 0, salon.support(0, 1));
                check.due("60 at " + stance, stance > 50 ? 3 : 0, salon.support(1, 0));
                check.due("equal positions", 0, salon.support(0, 2));
            }
        });
        terms.test(SPOONS, "The support of a proposal against another one is the sum of the weights of the spoons "
                + "that prefer it to the other one.", check -> {
            TeaspoonSalon salon = Setting.withList(0, 99);
            check.due("without spoons", 0, salon.support(0, 1));
            int[] stances = {0, 49, 50, 99, 10, 20, 30, 40};
            for (int spoon = 0; spoon < 8; spoon++) {
                salon.addSpoon(spoon + 1, stances[spoon]);
            }
            check.due("low", 1 + 2 + 5 + 6 + 7 + 8, salon.support(0, 1));
            check.due("high", 3 + 4, salon.support(1, 0));
        });
        terms.test(SPOONS, "A proposal beats another one if its support against it is greater than the support of "
                + "the other one against it.", check -> {
            TeaspoonSalon equal = Setting.propose(Setting.withSpoons(3, 0, 2, 99, 1, 99), 0, 99);
            check.due("3 to 3", true, equal.isInTop(0) && equal.isInTop(1));
            check.due("3 to 3", true, equal.isInTopBySets(0) && equal.isInTopBySets(1));
            TeaspoonSalon greater = Setting.propose(Setting.withSpoons(4, 0, 2, 99, 1, 99), 0, 99);
            check.due("4 to 3", true, greater.isInTop(0) && !greater.isInTop(1));
            check.due("4 to 3", true, greater.isInTopBySets(0) && !greater.isInTopBySets(1));
        });
    }

    private static void motions(Sentences terms) {
        terms.test(TABLE, "Motions lie on the table, each one above the one before.", check -> {
            TeaspoonSalon salon = Setting.withList(50);
            for (int count = 1; count <= 5; count++) {
                check.due("the count", count, Setting.move(salon, KINDS.charAt(count - 1)));
                check.due("the top", KINDS.charAt(count - 1), salon.motionKind(count - 1));
                check.due("the lowest", 'm', salon.motionKind(0));
            }
        });
        terms.test(TABLE, "There are five kinds of motions: main motions (m), amendments (a), motions to postpone (p), "
                + "to close the debate (c), and to adjourn (j), in this order of rank.", check -> {
            for (int top = 0; top < 5; top++) {
                TeaspoonSalon salon = Setting.move(Setting.withList(50), top == 0 ? "m" : "m" + KINDS.charAt(top));
                for (int rank = 0; rank < 5; rank++) {
                    char kind = KINDS.charAt(rank);
                    Object want = rank > top ? (top == 0 ? 2 : 3) : "throws UnsupportedOperationException";
                    check.due("canMove " + kind, rank > top, salon.canMove(kind));
                    check.due(kind + " on " + KINDS.charAt(top), want, Check.answerOf(() -> Setting.move(salon, kind)));
                    if (rank > top) {
                        salon.undo();
                    }
                }
            }
        });
        terms.test(TABLE, "A main motion is about a proposal on the list and can only be made when the table is empty.",
                check -> {
            TeaspoonSalon salon = new TeaspoonSalon();
            check.refused("an empty list", NoSuchElementException.class, () -> salon.moveMain(0));
            Setting.propose(salon, 50, 60);
            check.refused("not yet on the list", NoSuchElementException.class, () -> salon.moveMain(2));
            salon.moveAdjournment();
            check.refused("on j", UnsupportedOperationException.class, () -> salon.moveMain(0));
            salon.vote();
            check.due("on nothing", 1, salon.moveMain(1));
            check.refused("on m", UnsupportedOperationException.class, () -> salon.moveMain(0));
            salon.vote();
            check.refused("no longer on the list", NoSuchElementException.class, () -> salon.moveMain(1));
            check.due("on nothing again", 1, salon.moveMain(0));
        });
        terms.test(TABLE, "An amendment has a change from -20 to 20.", check -> {
            TeaspoonSalon salon = Setting.move(Setting.withList(50), "m");
            for (int change = -20; change <= 20; change++) {
                salon.moveAmendment(change);
                check.due("amendment", change, salon.amendment());
                salon.undo();
            }
            check.refused("too low", IllegalArgumentException.class, () -> salon.moveAmendment(-21));
            check.refused("too high", IllegalArgumentException.class, () -> salon.moveAmendment(21));
        });
    }

    private static void whatCanBeMoved(Sentences terms) {
        terms.test(TABLE, "A motion of another kind than m can be made when the table is empty only if it is j, and "
                + "otherwise only if its rank is greater than that of the top motion.", check -> {
            TeaspoonSalon salon = Setting.withList(50);
            for (char kind : "apc".toCharArray()) {
                check.due("canMove " + kind, false, salon.canMove(kind));
                check.refused(kind + " on nothing", UnsupportedOperationException.class, () -> Setting.move(salon, kind));
            }
            check.due("canMove j", true, salon.canMove('j'));
            check.due("j on nothing", 1, salon.moveAdjournment());
            for (char kind : "apcj".toCharArray()) {
                check.refused(kind + " on j", UnsupportedOperationException.class, () -> Setting.move(salon, kind));
            }
            salon.undo();
            Setting.move(salon, "mp");
            check.refused("a on p", UnsupportedOperationException.class, () -> salon.moveAmendment(1));
            check.refused("p on p", UnsupportedOperationException.class, salon::movePostponement);
            salon.vote();
            check.due("a, as p is gone", 2, salon.moveAmendment(1));
        });
        terms.test(TABLE, "After the debate was closed, no amendment can be made until the table becomes empty; "
                + "a motion to close can be made again.", check -> {
            TeaspoonSalon salon = Setting.move(Setting.withList(50, 60), "mac");
            salon.vote();
            check.due("an earlier amendment stays", "m0a1!", Setting.table(salon));
            check.due("closing again", 3, salon.moveClosure());
            salon.vote();
            salon.vote();
            check.due("canMove a", false, salon.canMove('a'));
            check.refused("an amendment", UnsupportedOperationException.class, () -> salon.moveAmendment(1));
            check.refused("a wrong amendment", IllegalArgumentException.class, () -> salon.moveAmendment(21));
            check.due("the other kinds", true, salon.canMove('p') && salon.canMove('c') && salon.canMove('j'));
            salon.vote();
            check.due("an amendment when it was empty", 2, Setting.move(Setting.move(salon, "m"), 'a'));
        });
    }

    private static void speeches(Sentences terms) {
        terms.test(SPEECHES, "A spoon can speak when the table is not empty and the debate is not closed; "
                + "a speech costs the spoon 1 lump.", check -> {
            TeaspoonSalon salon = Setting.propose(Setting.withSpoons(1, 50, 1, 50), 50);
            check.refused("an empty table", IllegalStateException.class, () -> salon.speak(0));
            salon.moveAdjournment();
            check.due("on j", 1, salon.speak(1));
            salon.vote();
            check.refused("empty again", IllegalStateException.class, () -> salon.speak(0));
            Setting.move(salon, "m");
            check.due("on m", 1, salon.speak(0));
            check.due("on m", 1, salon.speak(1));
            salon.moveClosure();
            check.due("before it is closed", 2, salon.speak(0));
            salon.vote();
            check.refused("closed", IllegalStateException.class, () -> salon.speak(1));
            check.due("lumps", "3 3", salon.sugar(0) + " " + salon.sugar(1));
            salon.giveSugar(0, 1);
            check.refused("closed, and sugar given", IllegalStateException.class, () -> salon.speak(1));
        });
        terms.test(SPEECHES, "Each spoon can speak at most twice until the table becomes empty.", check -> {
            TeaspoonSalon salon = Setting.move(Setting.propose(Setting.withSpoons(9, 50, 1, 50), 50), "ma");
            check.due("first", 1, salon.speak(0));
            salon.vote();
            check.due("second", 2, salon.speak(0));
            check.refused("third", IllegalStateException.class, () -> salon.speak(0));
            Setting.move(salon, "p");
            check.refused("third on another motion", IllegalStateException.class, () -> salon.speak(0));
            check.due("another spoon", 1, salon.speak(1));
            salon.vote();
            salon.vote();
            Setting.move(salon, "j");
            check.due("after an empty table", 1, salon.speak(0));
        });
        terms.test(SPEECHES, "Whenever the table becomes empty, the debate is open, and no spoon has spoken.",
                DebateTermsTest::waysToAnEmptyTable);
    }

    /** By a main motion adopted or not, by one of the others adopted or not, and by a spill. */
    private static void waysToAnEmptyTable(Check check) {
        int[][] ways = {{50, 'm'}, {0, 'm'}, {50, 'j'}, {0, 'p'}, {50, 's'}};
        for (int[] way : ways) {
            TeaspoonSalon salon = Setting.propose(Setting.withSpoons(5, 50, 1, 50), way[0], 3);
            Setting.move(salon, "m");
            salon.speak(0);
            salon.speak(0);
            salon.speak(1);
            Setting.move(salon, "c");
            check.due("closed", true, salon.vote());
            check.due("as it was", "true 2 1", salon.isClosed() + " " + salon.speeches(0) + " " + salon.speeches(1));
            emptyTable(salon, (char) way[1]);
            String after = salon.motionCount() + " " + salon.isClosed() + " " + salon.speeches(0) + " " + salon.speeches(1);
            check.due("after " + (char) way[1], "0 false 0 0", after);
        }
        TeaspoonSalon salon = Setting.move(Setting.withSpoons(1, 50), "j");
        salon.speak(0);
        check.due("j is not adopted", false, salon.vote());
        check.due("speeches", 0, salon.speeches(0));
    }

    private static void emptyTable(TeaspoonSalon salon, char way) {
        if (way == 's') {
            salon.spill(0, 0, 20);
            return;
        }
        if (way == 'j') {
            Setting.run(salon, "adjourn;vote");
            Setting.run(salon, "postpone;vote");
        }
        if (way == 'p') {
            salon.movePostponement();
        }
        salon.vote();
    }

    private static String voters(TeaspoonSalon salon) {
        StringBuilder voters = new StringBuilder();
        for (int spoon = 0; spoon < salon.spoonCount(); spoon++) {
            voters.append(salon.votesYes(spoon) ? 'y' : 'n');
        }
        return voters.toString();
    }

    private static void votesByKind(Sentences terms) {
        terms.test(VOTES, "In a vote, every spoon votes yes or no on the top motion.", check -> {
            TeaspoonSalon salon = Setting.propose(Setting.withSpoons(1, 50, 2, 99), 50);
            Setting.move(salon, "m");
            check.due("on m", "yn 1", voters(salon) + " " + salon.yesVotes());
            Setting.move(salon, "a");
            check.due("on a", "ny 2", voters(salon) + " " + salon.yesVotes());
            Setting.move(salon, "p");
            check.due("on p", "ny 2", voters(salon) + " " + salon.yesVotes());
            salon.speak(0);
            Setting.move(salon, "c");
            check.due("on c", "yn 1", voters(salon) + " " + salon.yesVotes());
            Setting.move(salon, "j");
            check.due("on j", "nn 0", voters(salon) + " " + salon.yesVotes());
        });
        terms.test(VOTES, "On a main motion it votes yes if the position of the proposal differs from its stance by at "
                + "most 25.", check -> {
            TeaspoonSalon salon = Setting.withSpoons(1, 23, 1, 24, 1, 25, 1, 49, 1, 73, 1, 74, 1, 75, 1, 0);
            check.due("at 49", "nyyyyynn", voters(Setting.move(Setting.propose(salon, 49), "m")));
            TeaspoonSalon ends = Setting.withSpoons(1, 0, 1, 25, 1, 26, 1, 99);
            check.due("at 0", "yynn", voters(Setting.move(Setting.propose(ends, 0), "m")));
            TeaspoonSalon high = Setting.withSpoons(1, 0, 1, 73, 1, 74, 1, 99);
            check.due("at 99", "nnyy", voters(Setting.move(Setting.propose(high, 99), "m")));
        });
        terms.test(VOTES, "On an amendment it votes yes if the position plus the change, but at least 0 and at most 99, "
                + "differs less from its stance than the position.", DebateTermsTest::votesOnAmendments);
        terms.test(VOTES, "To postpone it votes yes if it would vote no on the main motion.", check -> {
            TeaspoonSalon salon = Setting.propose(Setting.withSpoons(1, 25, 1, 24, 1, 75, 1, 76), 50);
            check.due("on m", "ynyn", voters(Setting.move(salon, "m")));
            check.due("on p", "nyny", voters(Setting.move(salon, "p")));
            TeaspoonSalon amended = Setting.move(Setting.propose(Setting.withSpoons(9, 76, 1, 25), 50), "ma");
            amended.vote();
            check.due("after an amendment", "ny", voters(Setting.move(amended, "p")));
        });
    }

    private static void votesOnAmendments(Check check) {
        Object[][] votes = {
            {50, 10, 54, false}, {50, 10, 55, false}, {50, 10, 56, true}, {50, -10, 46, false}, {50, -10, 45, false},
            {50, -10, 44, true}, {50, 0, 50, false}, {50, 0, 99, false}, {50, 20, 50, false}, {50, 20, 99, true},
            {10, -20, 3, true}, {10, -20, 4, true}, {10, -20, 5, false}, {5, -20, 0, true}, {0, -20, 0, false},
            {90, 20, 96, true}, {90, 20, 95, true}, {90, 20, 94, false}, {95, 20, 99, true}, {99, 20, 99, false},
        };
        for (Object[] vote : votes) {
            TeaspoonSalon salon = Setting.propose(Setting.withSpoons(1, (int) vote[2]), (int) vote[0]);
            salon.moveMain(0);
            salon.moveAmendment((int) vote[1]);
            check.due(vote[0] + " by " + vote[1] + " at " + vote[2], vote[3], salon.votesYes(0));
        }
    }

    private static void votesOfSpoonsThatDebate(Sentences terms) {
        terms.test(VOTES, "To close the debate it votes yes if it has spoken at least once.", check -> {
            TeaspoonSalon salon = Setting.move(Setting.propose(Setting.withSpoons(1, 1, 1, 1, 1, 1), 50), "mc");
            check.due("nobody", "nnn", voters(salon));
            salon.speak(1);
            salon.speak(2);
            salon.speak(2);
            check.due("none, once, twice", "nyy", voters(salon));
        });
        terms.test(VOTES, "To adjourn it votes yes if it has fewer than 3 lumps.", check -> {
            TeaspoonSalon salon = Setting.withSpoons(1, 1, 9, 1);
            for (int left = 5; left > 0; left--) {
                salon.moveAdjournment();
                check.due(left + " lumps", left < 3, salon.votesYes(0));
                salon.speak(0);
                check.due(left - 1 + " lumps", left - 1 < 3, salon.votesYes(0));
                salon.vote();
            }
            salon.moveAdjournment();
            salon.giveSugar(0, 3);
            check.due("3 lumps again", false, salon.votesYes(0));
        });
    }

    /** The answers to wouldPass and vote on a motion, where the spoons of the first row vote yes on all but c. */
    private static void counted(Check check, char kind, int yes, int no, boolean adopted) {
        TeaspoonSalon salon = new TeaspoonSalon();
        addWeight(salon, yes, kind == 'p' ? 99 : 52);
        int first = salon.spoonCount();
        addWeight(salon, no, kind == 'p' ? 50 : 0);
        Setting.move(Setting.propose(salon, 50), kind == 'm' || kind == 'j' ? "" + kind : "m" + kind);
        for (int spoon = 0; spoon < first; spoon++) {
            salon.speak(spoon);
            salon.speak(spoon);
        }
        if (kind == 'j') {
            salon.vote();
            salon.moveAdjournment();
            for (int spoon = 0; spoon < first; spoon++) {
                salon.speak(spoon);
            }
        }
        String what = kind + " with " + yes + " to " + no;
        check.due("yesVotes: " + what, yes, salon.yesVotes());
        check.due("wouldPass: " + what, adopted, salon.wouldPass());
        check.due("vote: " + what, adopted, salon.vote());
    }

    private static void addWeight(TeaspoonSalon salon, int weight, int stance) {
        for (int left = weight; left > 0; left -= 9) {
            salon.addSpoon(Math.min(left, 9), stance);
        }
    }

    private static void counts(Sentences terms) {
        terms.test(VOTES, "The yes votes are the sum of the weights of the spoons that vote yes.", check -> {
            TeaspoonSalon salon = Setting.withSpoons(1, 50, 2, 99, 3, 50, 9, 25, 9, 75, 9, 0);
            check.due("some", 22, Setting.move(Setting.propose(salon, 50), "m").yesVotes());
            check.due("none", 0, Setting.move(salon, "j").yesVotes());
            TeaspoonSalon all = Setting.withSpoons(9, 0, 9, 0, 9, 0, 9, 0, 9, 0, 9, 0, 9, 0, 9, 0);
            check.due("all", 72, Setting.move(Setting.propose(all, 0), "m").yesVotes());
        });
        terms.test(VOTES, "A motion to close the debate is adopted if 3 times the yes votes are at least 2 times the sum "
                + "of all weights; any other motion is adopted if 2 times the yes votes are greater than the sum of all "
                + "weights.", check -> {
            int[][] closures = {{2, 1, 1}, {3, 2, 0}, {4, 2, 1}, {5, 3, 0}, {6, 3, 1}, {7, 3, 1}, {7, 4, 0}, {1, 0, 1},
                {0, 1, 0}, {36, 18, 1}, {36, 19, 0}};
            for (int[] vote : closures) {
                counted(check, 'c', vote[0], vote[1], vote[2] == 1);
            }
            int[][] others = {{1, 1, 0}, {2, 1, 1}, {3, 3, 0}, {4, 3, 1}, {3, 4, 0}, {1, 0, 1}, {0, 1, 0}, {36, 36, 0},
                {36, 35, 1}};
            for (char kind : "mapj".toCharArray()) {
                for (int[] vote : others) {
                    counted(check, kind, vote[0], vote[1], vote[2] == 1);
                }
            }
        });
        terms.test(VOTES, "Without spoons, both sums are 0.", check -> {
            TeaspoonSalon salon = Setting.move(Setting.withList(50), "mapcj");
            for (char kind : "jcpam".toCharArray()) {
                check.due("yesVotes on " + kind, 0, salon.yesVotes());
                check.due("wouldPass on " + kind, kind == 'c', salon.wouldPass());
                check.due("vote on " + kind, kind == 'c', salon.vote());
            }
            check.due("motions", 0, salon.motionCount());
        });
        terms.test(VOTES, "The top motion is removed from the table, and an adopted one takes effect.", check -> {
            TeaspoonSalon salon = Setting.move(Setting.propose(Setting.withSpoons(1, 99), 50), "mapj");
            salon.vote();
            check.due("j is not adopted", "m0a1p", Setting.table(salon));
            check.due("no effect", 0, salon.sittings());
            Setting.move(salon, "c");
            salon.vote();
            check.due("c is not adopted", "m0a1p", Setting.table(salon));
            salon.addSpoon(1, 50);
            salon.vote();
            check.due("p is not adopted", "m0a1", Setting.table(salon));
            salon.undo();
            salon.undo();
            salon.vote();
            check.due("p is adopted", "", Setting.table(salon));
            Setting.move(salon, "ma");
            check.due("a is adopted", true, salon.vote());
            check.due("the effect", "m0 51", Setting.table(salon) + " " + salon.position(0));
            salon.vote();
            check.due("m is not adopted", "", Setting.table(salon));
        });
    }

    private static void effectsOfMainMotions(Sentences terms) {
        terms.test(EFFECTS, "A main motion that is adopted puts the proposal into the minutes, removes it from the list, "
                + "and gives each spoon that voted yes 2 lumps; one that is not adopted removes the proposal from the "
                + "list.", check -> {
            TeaspoonSalon salon = Setting.propose(Setting.withSpoons(4, 25, 1, 24, 4, 75, 1, 76), 0, 50, 99);
            salon.moveMain(1);
            check.due("adopted", true, salon.vote());
            check.due("the minutes", "1 1", salon.minutesCount() + " " + salon.minute(0));
            check.due("the list", "0@0,2@99", Setting.list(salon));
            check.due("the sugar", "7 5 7 5", sugar(salon));
            salon.moveMain(2);
            check.due("4 and 1 of 10", false, salon.vote());
            check.due("the minutes", 1, salon.minutesCount());
            check.due("the list", "0@0", Setting.list(salon));
            check.due("the sugar", "7 5 7 5", sugar(salon));
        });
        terms.test(EFFECTS, "An amendment changes the position as told above.", check -> {
            int[][] amendments = {{10, -10, 0}, {9, -10, 0}, {11, -10, 1}, {20, -20, 0}, {5, -20, 0}, {89, 10, 99},
                {90, 10, 99}, {88, 10, 98}, {95, 20, 99}, {50, 20, 70}, {50, -20, 30}, {1, -1, 0}, {98, 1, 99}};
            for (int[] amendment : amendments) {
                int stance = amendment[1] < 0 ? 0 : 99;
                TeaspoonSalon salon = Setting.propose(Setting.withSpoons(1, stance), 50, amendment[0], 50);
                salon.moveMain(1);
                salon.moveAmendment(amendment[1]);
                check.due("adopted", true, salon.vote());
                check.due("list", "0@50,1@" + amendment[2] + ",2@50", Setting.list(salon));
            }
            TeaspoonSalon refused = Setting.move(Setting.propose(Setting.withSpoons(1, 0), 50), "ma");
            check.due("not adopted", false, refused.vote());
            check.due("position", 50, refused.position(0));
        });
    }

    private static String sugar(TeaspoonSalon salon) {
        StringBuilder sugar = new StringBuilder();
        for (int spoon = 0; spoon < salon.spoonCount(); spoon++) {
            sugar.append(spoon == 0 ? "" : " ").append(salon.sugar(spoon));
        }
        return sugar.toString();
    }

    private static void effectsOfOthers(Sentences terms) {
        terms.test(EFFECTS, "A motion to postpone empties the table and moves the proposal of the main motion to the end "
                + "of the list.", check -> {
            String[] lists = {"1@2,2@3,0@1", "0@1,2@3,1@2", "0@1,1@2,2@3"};
            for (int id = 0; id < 3; id++) {
                TeaspoonSalon salon = Setting.propose(Setting.withSpoons(1, 99), 1, 2, 3);
                salon.moveMain(id);
                Setting.move(salon, "ap");
                check.due("adopted", true, salon.vote());
                check.due("table", "", Setting.table(salon));
                check.due("list", lists[id], Setting.list(salon));
            }
            TeaspoonSalon full = Setting.propose(Setting.withSpoons(1, 99), 1, 2, 3, 4, 5, 6);
            Setting.move(full, "mp").vote();
            check.due("a full list", "1@2,2@3,3@4,4@5,5@6,0@1", Setting.list(full));
            TeaspoonSalon one = Setting.propose(Setting.withSpoons(1, 99), 7);
            Setting.move(one, "mp").vote();
            check.due("a list of one", "0@7", Setting.list(one));
            check.due("no gain", 5, one.sugar(0));
        });
        terms.test(EFFECTS, "A motion to close the debate closes it.", check -> {
            TeaspoonSalon salon = Setting.move(Setting.propose(Setting.withSpoons(2, 50, 1, 50), 50), "mc");
            check.due("moved", false, salon.isClosed());
            salon.vote();
            check.due("not adopted", false, salon.isClosed());
            salon.speak(0);
            Setting.move(salon, "c").vote();
            check.due("adopted", true, salon.isClosed());
            salon.addSpoon(9, 50);
            check.due("not adopted again", false, Setting.move(salon, "c").vote());
            check.due("still", true, salon.isClosed());
        });
        terms.test(EFFECTS, "A motion to adjourn ends the sitting: the table is emptied, and the number of sittings, "
                + "which is 0 at first, increases by 1; the proposals stay on the list.", check -> {
            TeaspoonSalon salon = Setting.propose(Setting.withSpoons(1, 50, 9, 50), 3, 4);
            check.due("at first", 0, salon.sittings());
            salon.moveAdjournment();
            check.due("not adopted", false, salon.vote());
            check.due("not adopted", 0, salon.sittings());
            Setting.move(salon, "ma");
            for (int speech = 0; speech < 2; speech++) {
                salon.speak(1);
            }
            Setting.move(salon, "j");
            check.due("3 lumps", false, salon.vote());
            Setting.run(salon, "vote;postpone;vote");
            Setting.move(salon, "ma");
            salon.speak(1);
            String list = Setting.list(salon);
            for (int sitting = 1; sitting < 4; sitting++) {
                Setting.move(salon, "j");
                check.due("adopted", true, salon.vote());
                check.due("sittings", sitting, salon.sittings());
                check.due("table", "", Setting.table(salon));
                check.due("list", list, Setting.list(salon));
            }
        });
    }
}
