import java.io.IOException;
import java.util.ArrayList;
import java.util.List;
import java.util.NoSuchElementException;
import java.util.function.Function;
import java.util.function.Supplier;
import java.util.regex.Matcher;
import java.util.regex.Pattern;

/** The terms of scripts and changes, and how long an object serves, a test for each sentence. */
public final class ScriptAndChangeTermsTest {
    private static final String OBJECT = "What it is";
    private static final String SCRIPTS = "Scripts";
    private static final String CHANGES = "Changes";

    /** The form of a script once more, so that the Java library can say whether a text begins like one. */
    private static final String COMMAND = "(spoon \\d \\d\\d?|propose \\d\\d?|move \\d\\d?|amend -?\\d\\d?|postpone|close"
            + "|adjourn|speak \\d|vote|spill \\d\\d \\d\\d?|mop \\d\\d|sugar \\d \\d)";
    private static final Pattern FORM = Pattern.compile(COMMAND + "(;" + COMMAND + ")*");

    private static final String[] EACH_COMMAND = {
        "spoon 9 0", "spoon 1 99", "propose 0", "propose 99", "move 0", "move 02", "amend 5", "amend -20", "amend -0",
        "postpone", "close", "adjourn", "speak 1", "vote", "spill 07 1", "spill 70 30", "mop 34", "sugar 0 9",
    };

    public static void main(String[] args) throws IOException {
        Sentences terms = new Sentences(OBJECT, SCRIPTS, CHANGES);
        lifeOfAnObject(terms);
        buffer(terms);
        form(terms);
        commands(terms);
        allOrNone(terms);
        errorPositions(terms);
        whatIsAChange(terms);
        latestChanges(terms);
        whatIsCovered(terms);
        whatThrows(terms);
        terms.end();
    }

    private static void lifeOfAnObject(Sentences terms) {
        terms.leave(OBJECT, "A salon in which teaspoons argue.");
        terms.test(OBJECT, "An object is used for at most 512 calls after it has been made; what later calls answer is "
                + "free.", check -> {
            TeaspoonSalon sweet = Setting.withSpoons(1, 50);
            for (int call = 1; call <= 509; call++) {
                check.due("giveSugar", 5 + 9 * call, sweet.giveSugar(0, 9));
            }
            check.due("sugarByAccounts", 4586, sweet.sugarByAccounts());
            check.due("sugarTotal", 4586, sweet.sugarTotal());
            TeaspoonSalon busy = Setting.withSpoons(1, 50);
            for (int round = 0; round < 169; round++) {
                check.due("propose", round, busy.propose(50));
                busy.moveMain(round);
                check.due("vote", true, busy.vote());
            }
            check.due("minutesCount", 169, busy.minutesCount());
            check.due("minute", "149 168", busy.minute(149) + " " + busy.minute(168));
            check.due("undo", 7, busy.undo());
            TeaspoonSalon wet = new TeaspoonSalon();
            for (int call = 1; call <= 512; call++) {
                check.due("spill", Math.min(64, 20 * call), wet.spill(call % 8, call / 8 % 8, 20));
            }
        });
    }

    private static void buffer(Sentences terms) {
        terms.test(SCRIPTS, "A script is typed into a buffer of at most 60 characters and then run.", check -> {
            String script = "propose 1;propose 20;propose 30;propose 40;propose 50;move 0";
            TeaspoonSalon salon = new TeaspoonSalon();
            check.due("type", 60, Setting.type(salon, script));
            check.refused("the 61st", IllegalStateException.class, () -> salon.type(';'));
            check.due("runScript", 6, salon.runScript());
            check.due("list", "0@1,1@20,2@30,3@40,4@50", Setting.list(salon));
            check.due("table", "m0", Setting.table(salon));
            check.due("room again", 60, Setting.type(salon, script));
            check.refused("the 61st again", IllegalStateException.class, () -> salon.type(';'));
        });
        terms.test(SCRIPTS, "It has the form", check -> {
            check.refused("an empty script", IllegalArgumentException.class, () -> new TeaspoonSalon().runScript());
            check.refused("another", IllegalArgumentException.class, () -> Setting.run(new TeaspoonSalon(), "speech"));
            check.due("one that has it", 1, Setting.run(new TeaspoonSalon(), "adjourn"));
        });
    }

    private static Object ran(String script) {
        return Check.answerOf(() -> Setting.run(prepared(), script));
    }

    /** Three spoons, three proposals, some tea; each command but a vote and a motion above another can be done. */
    private static TeaspoonSalon prepared() {
        TeaspoonSalon salon = Setting.propose(Setting.withSpoons(2, 50, 3, 60, 4, 90), 50, 60, 70);
        salon.spill(3, 3, 5);
        return salon;
    }

    private static void form(Sentences terms) {
        String wrong = "throws IllegalArgumentException";
        terms.test(SCRIPTS, "`script = command { \";\" command`}", check -> {
            check.due("no command", wrong, ran(""));
            check.due("one", 1, ran("adjourn"));
            check.due("two", 2, ran("adjourn;vote"));
            check.due("seven", 7, ran("move 0;vote;adjourn;vote;adjourn;vote;move 1"));
            for (String script : List.of(";", ";adjourn", "adjourn;", "adjourn;;vote", "adjourn vote", "adjourn; vote",
                    "adjourn ;vote", " adjourn", "adjourn ", "adjourn,vote", "adjournvote")) {
                check.due(script, wrong, ran(script));
            }
            TeaspoonSalon five = Setting.move(Setting.withList(50), "mapcj");
            String twelve = "vote;vote;vote;vote;vote;vote;vote;vote;vote;vote;vote;vote";
            check.refused("twelve have the form", IllegalStateException.class, () -> Setting.run(five, twelve));
            check.due("the sixth vote fails", 5, five.failedCommand());
            check.due("twelve and a semicolon", wrong, ran(twelve + ";"));
        });
        terms.test(SCRIPTS, "`command = \"spoon \" digit \" \" number | \"propose \" number | \"move \" number | \"amend \" "
                + "[ \"-\" ] number | \"postpone\" | \"close\" | \"adjourn\" | \"speak \" digit | \"vote\" | \"spill \" "
                + "digit digit \" \" number | \"mop \" digit digit | \"sugar \" digit \" \" digit`", check -> {
            for (String command : EACH_COMMAND) {
                check.due(command, false, wrong.equals(ran(command)));
                check.due(command + " shortened", wrong, ran(command.substring(0, command.length() - 1) + "!"));
                check.due(command + " after a space", wrong, ran(" " + command));
                check.due(command + " before a space", wrong, ran(command + " "));
                check.due(command + " in capitals", wrong, ran(command.toUpperCase()));
                check.due(command + " with wide spaces", !command.contains(" "), !wrong.equals(ran(command.replace(" ", "  "))));
                check.due(command + " without spaces", !command.contains(" "), !wrong.equals(ran(command.replace(" ", ""))));
            }
            for (String command : List.of("spoon 10 5", "spoon -1 5", "spoon 1 -5", "propose -1", "move -1", "speak 10",
                    "spill 1 1 5", "spill 11 -5", "spill 111 5", "mop 1", "mop 111", "mop 1 1", "sugar 1 10", "sugar 10 1",
                    "vote 1", "close 1", "adjourn 1", "postpone 1", "amend +5", "amend - 5")) {
                check.due(command, wrong, ran(command));
            }
        });
        terms.test(SCRIPTS, "`number = digit [ digit ]`", check -> {
            for (String number : List.of("", "000", "100", "0x", "-1", "+1", " 1", "1 ", "a", "/", ":")) {
                check.due("propose " + number, wrong, ran("propose " + number));
            }
            String[] numbers = {"0", "9", "00", "09", "10", "90", "99"};
            for (String number : numbers) {
                TeaspoonSalon salon = new TeaspoonSalon();
                check.due("propose " + number, 1, Setting.run(salon, "propose " + number));
                check.due("position", Integer.parseInt(number), salon.position(0));
            }
        });
        terms.test(SCRIPTS, "where braces mean zero or more repetitions, brackets an optional part, and a bar an "
                + "alternative.", check -> {
            check.due("no repetition", 1, ran("move 0"));
            check.due("one repetition", 2, ran("move 0;amend 5"));
            check.due("the part", 2, ran("move 0;amend -5"));
            check.due("the part twice", wrong, ran("move 0;amend --5"));
            check.due("both parts", 2, ran("move 0;amend -05"));
            check.due("one alternative after another", wrong, ran("voteclose"));
        });
    }

    private static void commands(Sentences terms) {
        terms.test(SCRIPTS, "The commands stand for the methods addSpoon, propose, moveMain, moveAmendment, "
                + "movePostponement, moveClosure, moveAdjournment, speak, vote, spill, mop and giveSugar with the numbers as "
                + "arguments in the order of the parameters.", check -> {
            Object[][] commands = {
                {"", "spoon 7 06", call(salon -> salon.addSpoon(7, 6))},
                {"", "propose 98", call(salon -> salon.propose(98))},
                {"", "move 2", call(salon -> salon.moveMain(2))},
                {"m", "amend 17", call(salon -> salon.moveAmendment(17))},
                {"m", "amend -8", call(salon -> salon.moveAmendment(-8))},
                {"m", "postpone", call(TeaspoonSalon::movePostponement)},
                {"m", "close", call(TeaspoonSalon::moveClosure)},
                {"m", "adjourn", call(TeaspoonSalon::moveAdjournment)},
                {"m", "speak 2", call(salon -> salon.speak(2))},
                {"m", "vote", call(TeaspoonSalon::vote)},
                {"", "spill 61 23", call(salon -> salon.spill(6, 1, 23))},
                {"", "mop 43", call(salon -> salon.mop(4, 3))},
                {"", "sugar 1 8", call(salon -> salon.giveSugar(1, 8))},
            };
            for (Object[] command : commands) {
                Supplier<TeaspoonSalon> before = () -> Setting.move(prepared(), (String) command[0]);
                TeaspoonSalon scripted = before.get();
                TeaspoonSalon called = before.get();
                check.due((String) command[1], 1, Setting.run(scripted, (String) command[1]));
                ((Action) command[2]).apply(called);
                check.due("after " + command[1], Setting.portrait(called), Setting.portrait(scripted));
            }
        });
    }

    private interface Action extends Function<TeaspoonSalon, Object> {
    }

    private static Action call(Action action) {
        return action;
    }

    private static void allOrNone(Sentences terms) {
        terms.test(SCRIPTS, "The commands are executed in order, and either all of them take effect or none.", check -> {
            TeaspoonSalon salon = new TeaspoonSalon();
            check.due("each needs the one before", 5, Setting.run(salon, "spoon 1 1;propose 1;move 0;speak 0;vote"));
            check.due("all took effect", "6 0", salon.sugar(0) + " " + salon.minute(0));
            String[] failing = {"vote", "sugar 0 0", "mop 00", "spoon 0 1", "propose 5;propose 6;move 3;move 4"};
            for (String command : failing) {
                for (String script : List.of(command, command + ";spill 44 9", "spill 44 9;" + command,
                        "spill 44 9;" + command + ";sugar 0 3")) {
                    TeaspoonSalon before = prepared();
                    String portrait = Setting.portrait(before);
                    check.refused(script, IllegalStateException.class, () -> Setting.run(before, script));
                    check.due("none took effect of " + script, portrait, Setting.portrait(before));
                    check.due("the next id", 3, before.propose(1));
                    check.due("another script", 1, Setting.run(before, "sugar 0 1"));
                    TeaspoonSalon without = prepared();
                    without.propose(1);
                    without.giveSugar(0, 1);
                    check.due("that one alone", Setting.portrait(without), Setting.portrait(before));
                }
            }
        });
    }

    /** The first place at which the text no longer begins like a script, or the end if it is none yet. */
    private static Object errorOf(String text) {
        for (int length = 1; length <= text.length(); length++) {
            Matcher matcher = FORM.matcher(text.substring(0, length));
            if (!matcher.matches() && !matcher.hitEnd()) {
                return length - 1;
            }
        }
        return FORM.matcher(text).matches() ? "throws NoSuchElementException" : (Object) text.length();
    }

    private static void errorPositions(Sentences terms) {
        terms.test(SCRIPTS, "The error position of a script that does not have this form is the index of the first "
                + "character that cannot continue any script of this form, or the length of the script if every character "
                + "can and the end comes too early.", check -> {
            List<String> scripts = new ArrayList<>(List.of(EACH_COMMAND));
            scripts.addAll(List.of("vote;spill 12 3;spoon 1 1", "mop 11;move 11;sugar 1 1;speak 1"));
            for (String script : scripts) {
                for (int place = 0; place <= script.length(); place++) {
                    String start = script.substring(0, place);
                    expectError(check, start);
                    for (char sign : " ;-0789/:aAcdeklmnoprstuvz~".toCharArray()) {
                        expectError(check, start + sign);
                        expectError(check, start + sign + script.substring(place));
                        expectError(check, start + sign + script.substring(Math.min(place + 1, script.length())));
                    }
                }
            }
            String full = "vote;vote;vote;vote;vote;vote;vote;vote;vote;vote;vote;vote;";
            check.due("60 characters", 60, full.length());
            expectError(check, full);
            expectError(check, full.substring(0, 58));
            expectError(check, full.substring(0, 55) + "votes");
        });
    }

    private static void expectError(Check check, String script) {
        TeaspoonSalon salon = new TeaspoonSalon();
        Check.answerOf(() -> Setting.run(salon, script));
        check.due("errorPosition of " + script, errorOf(script), Check.answerOf(salon::errorPosition));
    }

    private static void whatIsAChange(Sentences terms) {
        terms.test(CHANGES, "A change is a call of a method for a command, or of runScript, that returns normally, even if "
                + "the state is the same afterwards.", check -> {
            List<Action> changes = List.of(call(salon -> salon.addSpoon(1, 1)), call(salon -> salon.propose(1)),
                    call(salon -> salon.moveMain(1)), call(salon -> salon.moveAmendment(0)),
                    call(TeaspoonSalon::movePostponement), call(TeaspoonSalon::moveClosure),
                    call(TeaspoonSalon::moveAdjournment), call(salon -> salon.speak(0)), call(TeaspoonSalon::vote),
                    call(salon -> salon.spill(0, 0, 1)), call(salon -> salon.mop(0, 0)),
                    call(salon -> salon.giveSugar(0, 1)), call(salon -> Setting.run(salon, "spill 00 1;mop 00")));
            TeaspoonSalon salon = prepared();
            salon.save();
            salon.restore();
            for (Action change : changes) {
                change.apply(salon);
                int left = salon.undo();
                check.due("one more to undo", 0, left);
                change.apply(salon);
                salon.save();
                salon.restore();
            }
            check.refused("a query, save and restore are none", IllegalStateException.class, salon::undo);
            salon.renderList();
            salon.isConsistent();
            salon.type('x');
            check.refused("nor are these", IllegalStateException.class, salon::undo);
            check.refused("a script that throws", IllegalArgumentException.class, salon::runScript);
            check.refused("a script that throws", IllegalStateException.class, () -> Setting.run(salon, "mop 00;mop 00"));
            check.refused("a call that throws", IllegalStateException.class, () -> salon.mop(0, 0));
            check.refused("they are no changes", IllegalStateException.class, salon::undo);
            salon.propose(5);
            String before = Setting.portrait(salon);
            Setting.run(salon, "spill 00 1;mop 00");
            check.due("the same state", before, Setting.portrait(salon));
            check.due("it can be undone", 1, salon.undo());
            check.due("the same state", before, Setting.portrait(salon));
        });
    }

    private static void latestChanges(Sentences terms) {
        terms.test(CHANGES, "The latest 8 changes can be undone, the latest one first.", check -> {
            for (int changes : new int[] {0, 1, 7, 8, 9, 15, 16, 17, 18, 100}) {
                TeaspoonSalon salon = Setting.withSpoons(1, 50);
                salon.save();
                salon.restore();
                for (int change = 0; change < changes; change++) {
                    salon.giveSugar(0, 1 + change % 9);
                }
                int sugar = salon.sugar(0);
                int most = Math.min(8, changes);
                for (int undone = 1; undone <= most; undone++) {
                    check.due("undo of " + changes, most - undone, salon.undo());
                    sugar -= 1 + (changes - undone) % 9;
                    check.due("sugar", sugar, salon.sugar(0));
                }
                check.refused("one more of " + changes, IllegalStateException.class, salon::undo);
                check.due("sugar", sugar, salon.sugar(0));
            }
            TeaspoonSalon salon = Setting.withSpoons(1, 50, 1, 50, 1, 50, 1, 50, 1, 50, 1, 50, 1, 50, 1, 50);
            for (int round = 0; round < 20; round++) {
                salon.undo();
                salon.undo();
                check.due("a new change after two were undone", 6, salon.addSpoon(2, round));
                check.due("another one", 7, salon.addSpoon(3, round));
            }
            for (int left = 7; left >= 0; left--) {
                check.due("undo", left, salon.undo());
                check.due("spoonCount", left, salon.spoonCount());
            }
        });
    }

    private static void whatIsCovered(Sentences terms) {
        terms.test(CHANGES, "Undo and the snapshot cover everything, including the next id of a proposal, except the script "
                + "buffer, the error position, the index of the failed command, the output text and the snapshot itself.",
                check -> {
            for (int query = 0; query < EVERYTHING.size(); query++) {
                Action ask = EVERYTHING.get(query);
                Object before = Check.answerOf(() -> ask.apply(debated()));
                Object after = Check.answerOf(() -> ask.apply(changedByCalls()));
                check.due("query " + query + " tells the change", false, before.equals(after));
                check.due("query " + query + " after a script", after, Check.answerOf(() -> ask.apply(changedByScript())));
                check.due("query " + query + " after undo", before, Check.answerOf(() -> ask.apply(undone(7))));
                check.due("query " + query + " after undo of a script", before, Check.answerOf(() -> ask.apply(undone(1))));
                check.due("query " + query + " after restore", before, Check.answerOf(() -> ask.apply(restored())));
            }
            expectUndisturbed(check, undone(7));
            expectUndisturbed(check, undone(1));
            expectUndisturbed(check, restored());
            TeaspoonSalon saved = Setting.withSpoons(1, 50);
            saved.save();
            saved.addSpoon(2, 50);
            saved.save();
            saved.undo();
            check.due("undo leaves the snapshot", 2, saved.restore());
            saved.addSpoon(3, 50);
            check.due("so does restore", 2, saved.restore());
        });
    }

    /** Each of these answers something else before the changes below and after them. */
    private static final List<Action> EVERYTHING = List.of(TeaspoonSalon::spoonCount, salon -> salon.weight(3),
            salon -> salon.stance(3), salon -> salon.sugar(0), salon -> salon.speeches(0), TeaspoonSalon::proposalCount,
            salon -> salon.proposalAt(0), salon -> salon.position(20), TeaspoonSalon::motionCount,
            salon -> salon.motionKind(1), TeaspoonSalon::amendment, TeaspoonSalon::mainProposal, TeaspoonSalon::isClosed,
            TeaspoonSalon::minutesCount, salon -> salon.minute(0), salon -> salon.minute(20), TeaspoonSalon::sittings,
            TeaspoonSalon::adoptedShare, TeaspoonSalon::wetCells, salon -> salon.isWet(0, 0), TeaspoonSalon::sugarTotal,
            TeaspoonSalon::sugarByAccounts, salon -> salon.propose(5), Setting::portrait);

    /** The minutes are as long as they are kept, and an amendment lies on the table of a closed debate. */
    private static TeaspoonSalon debated() {
        TeaspoonSalon salon = Setting.move(Setting.withSpoons(2, 50, 3, 60, 4, 90), "j");
        salon.vote();
        for (int id = 0; id < 20; id++) {
            salon.propose(70);
            salon.moveMain(id);
            salon.vote();
        }
        Setting.propose(salon, 50, 60, 70, 80);
        salon.spill(3, 3, 5);
        Setting.move(salon, "ma");
        for (int spoon = 0; spoon < 3; spoon++) {
            salon.speak(spoon);
        }
        Setting.move(salon, "c").vote();
        return salon;
    }

    private static TeaspoonSalon changedByCalls() {
        TeaspoonSalon salon = debated();
        salon.vote();
        salon.vote();
        salon.addSpoon(1, 1);
        salon.spill(0, 0, 30);
        salon.propose(4);
        salon.propose(4);
        salon.moveMain(22);
        return salon;
    }

    private static TeaspoonSalon changedByScript() {
        TeaspoonSalon salon = debated();
        Setting.run(salon, "vote;vote;spoon 1 1;spill 00 30;propose 4;propose 4;move 22");
        return salon;
    }

    private static TeaspoonSalon undone(int changes) {
        TeaspoonSalon salon = changes > 1 ? changedByCalls() : changedByScript();
        disturb(salon);
        for (int change = 0; change < changes; change++) {
            salon.undo();
        }
        return salon;
    }

    private static TeaspoonSalon restored() {
        TeaspoonSalon salon = debated();
        salon.save();
        Setting.run(salon, "vote;vote;spoon 1 1;spill 00 30;propose 4;propose 4;move 22");
        salon.mop(0, 0);
        disturb(salon);
        salon.restore();
        return salon;
    }

    private static void disturb(TeaspoonSalon salon) {
        Check.answerOf(() -> Setting.run(salon, "spoon"));
        Check.answerOf(() -> Setting.run(salon, "spoon 1 1;spoon 0 0"));
        salon.renderTable();
        Setting.type(salon, "propose ");
    }

    private static void expectUndisturbed(Check check, TeaspoonSalon salon) {
        check.due("errorPosition", 5, salon.errorPosition());
        check.due("failedCommand", 1, salon.failedCommand());
        check.due("the output text", "m22", "" + salon.outputAt(0) + salon.outputAt(1) + salon.outputAt(2));
        check.due("the script buffer", 10, Setting.type(salon, "33"));
        check.due("runScript", 1, salon.runScript());
        check.due("the next id", 33, salon.position(24));
    }

    private static void whatThrows(Sentences terms) {
        terms.test(CHANGES, "A method that throws an exception changes nothing unless its description says otherwise.",
                check -> {
            String young = Setting.aftermath(TeaspoonSalon::new);
            for (Action action : refusedByTheYoung()) {
                expectNoTrace(check, TeaspoonSalon::new, action, young);
            }
            String old = Setting.aftermath(ScriptAndChangeTermsTest::full);
            for (Action action : refusedByTheFull()) {
                expectNoTrace(check, ScriptAndChangeTermsTest::full, action, old);
            }
        });
        terms.test(CHANGES, "If several exceptions apply, the one that is listed first is thrown.", check -> {
            TeaspoonSalon young = new TeaspoonSalon();
            check.refused("speak", IndexOutOfBoundsException.class, () -> young.speak(0));
            check.refused("votesYes", IndexOutOfBoundsException.class, () -> young.votesYes(0));
            check.refused("spill", IndexOutOfBoundsException.class, () -> young.spill(8, 0, 0));
            check.refused("spill", IndexOutOfBoundsException.class, () -> young.spill(0, -1, 31));
            check.refused("mop", IndexOutOfBoundsException.class, () -> young.mop(-1, 0));
            check.refused("giveSugar", IndexOutOfBoundsException.class, () -> young.giveSugar(0, 0));
            check.refused("moveAmendment", IllegalArgumentException.class, () -> young.moveAmendment(-21));
            check.refused("runScript", IllegalArgumentException.class, () -> Setting.run(young, "vote;vot"));
            check.refused("no command failed", NoSuchElementException.class, young::failedCommand);
            TeaspoonSalon full = full();
            check.refused("addSpoon", IllegalArgumentException.class, () -> full.addSpoon(10, 1));
            check.refused("addSpoon", IllegalArgumentException.class, () -> full.addSpoon(1, 100));
            check.refused("propose", IllegalArgumentException.class, () -> full.propose(-1));
            check.refused("moveMain", NoSuchElementException.class, () -> full.moveMain(99));
            check.refused("moveAmendment", IllegalArgumentException.class, () -> full.moveAmendment(21));
            check.refused("type", IllegalArgumentException.class, () -> full.type((char) 127));
            check.refused("speak", IllegalStateException.class, () -> full.speak(0));
            check.due("without sugar", 0, full.sugar(0));
            check.refused("speak", IndexOutOfBoundsException.class, () -> full.speak(8));
        });
    }

    private static void expectNoTrace(Check check, Supplier<TeaspoonSalon> past, Action action, String aftermath) {
        Supplier<TeaspoonSalon> withAction = () -> {
            TeaspoonSalon salon = past.get();
            Object answer = Check.answerOf(() -> action.apply(salon));
            check.due("it throws", true, String.valueOf(answer).startsWith("throws "));
            return salon;
        };
        check.due("what comes after", aftermath, Setting.aftermath(withAction));
    }

    private static List<Action> refusedByTheYoung() {
        return List.of(salon -> salon.addSpoon(0, 1), salon -> salon.addSpoon(1, -1), salon -> salon.propose(100),
                salon -> salon.moveMain(0), salon -> salon.moveAmendment(21), salon -> salon.moveAmendment(1),
                TeaspoonSalon::movePostponement, TeaspoonSalon::moveClosure, salon -> salon.speak(0), TeaspoonSalon::vote,
                salon -> salon.spill(0, 8, 1), salon -> salon.spill(0, 0, 0), salon -> salon.mop(8, 0),
                salon -> salon.mop(0, 0), salon -> salon.giveSugar(0, 1), salon -> salon.weight(0),
                salon -> salon.stance(0), salon -> salon.sugar(0), salon -> salon.speeches(0),
                salon -> salon.proposalAt(0), salon -> salon.position(0), salon -> salon.motionKind(0),
                TeaspoonSalon::amendment, TeaspoonSalon::mainProposal, salon -> salon.canMove('x'),
                TeaspoonSalon::yesVotes, TeaspoonSalon::wouldPass, salon -> salon.votesYes(0),
                salon -> salon.support(0, 0), salon -> salon.bestOrder(0), salon -> salon.isInTop(0),
                salon -> salon.isInTopBySets(0), salon -> salon.isWet(8, 8), salon -> salon.puddle(8, 8),
                salon -> salon.puddleByGroups(8, 8), salon -> salon.spoonBySugar(0), salon -> salon.minute(0),
                TeaspoonSalon::meanStance, TeaspoonSalon::adoptedShare, salon -> salon.outputAt(0),
                salon -> salon.type((char) 31), TeaspoonSalon::errorPosition, TeaspoonSalon::failedCommand,
                TeaspoonSalon::undo, TeaspoonSalon::restore);
    }

    /** Full of spoons, proposals, motions and characters, with a snapshot and more changes than can be undone. */
    private static TeaspoonSalon full() {
        TeaspoonSalon salon = Setting.withSpoons(9, 50, 9, 50, 9, 50, 9, 50, 1, 50, 1, 50, 1, 50, 1, 50);
        Setting.propose(salon, 50, 20, 30).moveMain(0);
        salon.vote();
        salon.save();
        Setting.propose(salon, 50, 60, 70, 80);
        Check.answerOf(() -> Setting.run(salon, "adjourn;vote;vote"));
        Check.answerOf(() -> Setting.run(salon, "mop"));
        salon.spill(5, 5, 9);
        salon.renderList();
        spendSugar(salon);
        Setting.move(salon, "ma");
        salon.speak(1);
        salon.speak(2);
        salon.speak(3);
        Setting.move(salon, "c").vote();
        Setting.move(salon, "pcj");
        Setting.type(salon, "vote;vote;vote;vote;vote;vote;vote;vote;vote;vote;vote;vote;");
        return salon;
    }

    /** Leaves the first spoon without sugar, and the table empty. */
    private static void spendSugar(TeaspoonSalon salon) {
        while (salon.sugar(0) > 0) {
            if (salon.motionCount() == 0) {
                salon.moveAdjournment();
            }
            salon.speak(0);
            if (salon.speeches(0) == 2) {
                salon.vote();
            }
        }
        if (salon.motionCount() > 0) {
            salon.vote();
        }
    }

    private static List<Action> refusedByTheFull() {
        return List.of(salon -> salon.addSpoon(1, 1), salon -> salon.addSpoon(0, 1), salon -> salon.propose(1),
                salon -> salon.propose(-1), salon -> salon.moveMain(1), salon -> salon.moveMain(99),
                salon -> salon.moveAmendment(-21), salon -> salon.moveAmendment(2), TeaspoonSalon::movePostponement,
                TeaspoonSalon::moveClosure, TeaspoonSalon::moveAdjournment, salon -> salon.speak(0),
                salon -> salon.speak(8), salon -> salon.spill(-1, 0, 1), salon -> salon.spill(0, 0, 31),
                salon -> salon.mop(0, 8), salon -> salon.mop(0, 0), salon -> salon.giveSugar(8, 1),
                salon -> salon.giveSugar(0, 10), salon -> salon.weight(8), salon -> salon.stance(8),
                salon -> salon.sugar(-1), salon -> salon.speeches(-1), salon -> salon.proposalAt(6),
                salon -> salon.position(0), salon -> salon.motionKind(5), salon -> salon.canMove('M'),
                salon -> salon.votesYes(8), salon -> salon.support(1, 0), salon -> salon.bestOrder(6),
                salon -> salon.isInTop(0), salon -> salon.isInTopBySets(0), salon -> salon.isWet(8, 0),
                salon -> salon.puddle(0, 8), salon -> salon.puddleByGroups(-1, 0), salon -> salon.spoonBySugar(8),
                salon -> salon.minute(1), salon -> salon.outputAt(60), salon -> salon.type('x'),
                salon -> salon.type((char) 127));
    }
}
