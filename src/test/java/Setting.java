/** What several tests need before they begin. */
final class Setting {
    private Setting() {
    }

    /** Adds spoons with weights and stances in turns. */
    static TeaspoonSalon withSpoons(int... weightsAndStances) {
        TeaspoonSalon salon = new TeaspoonSalon();
        for (int i = 0; i + 1 < weightsAndStances.length; i += 2) {
            salon.addSpoon(weightsAndStances[i], weightsAndStances[i + 1]);
        }
        return salon;
    }

    static int type(TeaspoonSalon salon, String script) {
        int length = 0;
        for (int i = 0; i < script.length(); i++) {
            length = salon.type(script.charAt(i));
        }
        return length;
    }

    static int run(TeaspoonSalon salon, String script) {
        type(salon, script);
        return salon.runScript();
    }

    static String table(TeaspoonSalon salon) {
        return output(salon, salon.renderTable());
    }

    static String list(TeaspoonSalon salon) {
        return output(salon, salon.renderList());
    }

    static String output(TeaspoonSalon salon, int length) {
        StringBuilder text = new StringBuilder();
        for (int i = 0; i < length; i++) {
            text.append(salon.outputAt(i));
        }
        return text.toString();
    }

    /** What all queries without arguments and over all spoons, places and cells answer. */
    static String portrait(TeaspoonSalon salon) {
        StringBuilder text = new StringBuilder();
        for (int spoon = 0; spoon < salon.spoonCount(); spoon++) {
            text.append(salon.weight(spoon)).append('/').append(salon.stance(spoon)).append('/');
            text.append(salon.sugar(spoon)).append('/').append(salon.speeches(spoon)).append(' ');
        }
        for (int place = 0; place < salon.proposalCount(); place++) {
            int id = salon.proposalAt(place);
            text.append(id).append('@').append(salon.position(id)).append(' ');
        }
        for (int place = 0; place < salon.motionCount(); place++) {
            text.append(salon.motionKind(place));
        }
        text.append(Check.answerOf(salon::amendment)).append(Check.answerOf(salon::mainProposal));
        text.append(salon.isClosed()).append(' ').append(salon.minutesCount()).append(' ');
        text.append(salon.sittings()).append(Check.answerOf(salon::adoptedShare));
        text.append(salon.sugarTotal()).append(' ').append(salon.sugarByAccounts()).append(' ');
        for (int place = 0; place < salon.minutesCount(); place++) {
            int at = place;
            text.append(Check.answerOf(() -> salon.minute(at))).append(' ');
        }
        for (int cell = 0; cell < 64; cell++) {
            text.append(salon.isWet(cell / 8, cell % 8) ? '#' : '.');
        }
        return text.toString();
    }
}
