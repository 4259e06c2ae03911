import java.util.function.Supplier;

/** What several tests need before they begin. */
final class Setting {
    private Setting() {
    }

    /** Adds spoons with weights and stances in turns. */
    static TeaspoonSalon withSpoons(int... weightsAndStances) {
        TeaspoonSalon salon = new TeaspoonSalon();
        for (int i = 0; i + 1 < weightsAndStances.length; i += 2) {
            salon.addSpoon(weightsAndStances[i], weightsAndStances[i + 1]);
        }
        return salon;
    }

    static TeaspoonSalon eightSpoons() {
        return withSpoons(1, 0, 9, 99, 3, 30, 4, 40, 5, 50, 6, 60, 7, 70, 8, 80);
    }

    /** Puts proposals at these positions at the end of the list. */
    static TeaspoonSalon propose(TeaspoonSalon salon, int... positions) {
        for (int position : positions) {
            salon.propose(position);
        }
        return salon;
    }

    static TeaspoonSalon withList(int... positions) {
        return propose(new TeaspoonSalon(), positions);
    }

    /** Makes motions of these kinds: a main motion about the first proposal, an amendment by 1. */
    static TeaspoonSalon move(TeaspoonSalon salon, String kinds) {
        for (char kind : kinds.toCharArray()) {
            move(salon, kind);
        }
        return salon;
    }

    static int move(TeaspoonSalon salon, char kind) {
        switch (kind) {
            case 'm':
                return salon.moveMain(salon.proposalAt(0));
            case 'a':
                return salon.moveAmendment(1);
            case 'p':
                return salon.movePostponement();
            case 'c':
                return salon.moveClosure();
            default:
                return salon.moveAdjournment();
        }
    }

    static int type(TeaspoonSalon salon, String script) {
        int length = 0;
        for (int i = 0; i < script.length(); i++) {
            length = salon.type(script.charAt(i));
        }
        return length;
    }

    static int run(TeaspoonSalon salon, String script) {
        type(salon, script);
        return salon.runScript();
    }

    static String table(TeaspoonSalon salon) {
        return output(salon, salon.renderTable());
    }

    static String list(TeaspoonSalon salon) {
        return output(salon, salon.renderList());
    }

    static String output(TeaspoonSalon salon, int length) {
        StringBuilder text = new StringBuilder();
        for (int i = 0; i < length; i++) {
            text.append(salon.outputAt(i));
        }
        return text.toString();
    }

    /** What all queries without arguments and over all spoons, places and cells answer. */
    static String portrait(TeaspoonSalon salon) {
        StringBuilder text = new StringBuilder();
        for (int spoon = 0; spoon < salon.spoonCount(); spoon++) {
            text.append(salon.weight(spoon)).append('/').append(salon.stance(spoon)).append('/');
            text.append(salon.sugar(spoon)).append('/').append(salon.speeches(spoon)).append(' ');
        }
        for (int place = 0; place < salon.proposalCount(); place++) {
            int id = salon.proposalAt(place);
            text.append(id).append('@').append(salon.position(id)).append(' ');
        }
        for (int place = 0; place < salon.motionCount(); place++) {
            text.append(salon.motionKind(place));
        }
        text.append(Check.answerOf(salon::amendment)).append(Check.answerOf(salon::mainProposal));
        text.append(salon.isClosed()).append(' ').append(salon.minutesCount()).append(' ');
        text.append(salon.sittings()).append(Check.answerOf(salon::adoptedShare));
        text.append(salon.sugarTotal()).append(' ').append(salon.sugarByAccounts()).append(' ');
        for (int place = 0; place < salon.minutesCount(); place++) {
            int at = place;
            text.append(Check.answerOf(() -> salon.minute(at))).append(' ');
        }
        for (int cell = 0; cell < 64; cell++) {
            text.append(salon.isWet(cell / 8, cell % 8) ? '#' : '.');
        }
        return text.toString();
    }

    /**
     * All that later calls can tell of what was done with a salon: now, after each number of calls to undo, and after
     * the snapshot was restored. An object serves for 512 calls, so each look is at another one with the same past.
     */
    static String aftermath(Supplier<TeaspoonSalon> past) {
        StringBuilder text = new StringBuilder();
        for (int undone = 0; undone < 10; undone++) {
            TeaspoonSalon salon = past.get();
            for (int change = 0; change < undone; change++) {
                text.append(Check.answerOf(salon::undo)).append(' ');
            }
            text.append(portrait(salon)).append(future(salon)).append('\n');
        }
        TeaspoonSalon restored = past.get();
        text.append(Check.answerOf(restored::restore)).append(' ').append(portrait(restored));
        text.append(future(restored)).append('\n');
        return text.append(surroundings(past.get())).toString();
    }

    /** The votes on all that lies on the table and on the first proposal, then the next id, as there is room for one. */
    private static String future(TeaspoonSalon salon) {
        StringBuilder text = new StringBuilder();
        for (int vote = 0; vote < 5; vote++) {
            text.append(' ').append(Check.answerOf(salon::vote));
        }
        text.append(' ').append(Check.answerOf(() -> salon.moveMain(salon.proposalAt(0))));
        text.append(' ').append(Check.answerOf(salon::vote));
        return text.append(' ').append(Check.answerOf(() -> salon.propose(1))).toString();
    }

    /** What undo and the snapshot do not cover. */
    private static String surroundings(TeaspoonSalon salon) {
        StringBuilder text = new StringBuilder();
        for (int index = 0; index < 40; index++) {
            int at = index;
            text.append(Check.answerOf(() -> salon.outputAt(at))).append(' ');
        }
        text.append(Check.answerOf(salon::errorPosition)).append(' ').append(Check.answerOf(salon::failedCommand));
        text.append(' ').append(Check.answerOf(() -> salon.type(';'))).append(' ');
        text.append(Check.answerOf(salon::runScript)).append(' ').append(Check.answerOf(salon::errorPosition));
        return text.toString();
    }
}
