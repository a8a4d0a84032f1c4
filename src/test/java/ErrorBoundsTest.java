import java.util.ArrayList;
import java.util.List;
import java.util.Map;
import java.util.TreeMap;
import java.util.function.IntBinaryOperator;
import java.util.function.IntUnaryOperator;
import java.util.function.Supplier;
import java.util.function.ToIntFunction;

/**
 * Which error is answered rather than which, and that a call that answers an error changes nothing:
 * each call with each kind of argument is made in several states, and what the object can be seen to
 * hold afterwards is compared with an object on which the call was not made.
 */
public final class ErrorBoundsTest {
    private static final int LEAST = Integer.MIN_VALUE;
    private static final int GREATEST = Integer.MAX_VALUE;
    private static final int[] VALUES = {LEAST, -1, 0, 1, 2, 3, 4, 5, 6, 7, 8, 9, 10, GREATEST};
    private static final Checks CHECKS = new Checks();

    private enum Kind { TEXT, EDIT, UNDO, INSPECTION }

    private record Call(String name, Kind kind, String arguments,
            ToIntFunction<CitationFormatter> call) {
    }

    private interface OneArgument {
        IntUnaryOperator of(CitationFormatter x);
    }

    private interface TwoArguments {
        IntBinaryOperator of(CitationFormatter x);
    }

    public static void main(String[] args) {
        argumentRatherThanLimit();
        argumentRatherThanState();
        stateRatherThanLimit();
        argumentRatherThanNone();
        errorsChangeNothing();
        CHECKS.close("ErrorBoundsTest");
    }

    private static void due(String call, int got, int want) {
        CHECKS.due(call, got, want);
    }

    private static void precedence() {
        CHECKS.sentence("If several errors apply to a call, INVALID_ARGUMENT is returned rather than "
                + "INVALID_STATE, and INVALID_STATE rather than LIMIT_REACHED.");
    }

    private static void argumentRatherThanLimit() {
        precedence();
        CitationFormatter x = full();
        due("a character, and a full buffer", x.appendCharacter(255), -3);
        due("no work, and ten citations", x.beginCitation(7), -3);
        due("a sixth work", x.addToCitation(7), -3);
        for (int code : new int[] {LEAST, -1, 256, GREATEST}) {
            due("no code, and a full buffer", x.appendCharacter(code), -1);
        }
        for (int work : new int[] {LEAST, -1, 8, GREATEST}) {
            due("no work, and ten citations", x.beginCitation(work), -1);
            due("no work, and five works", x.addToCitation(work), -1);
        }
    }

    private static void argumentRatherThanState() {
        precedence();
        CitationFormatter none = new CitationFormatter();
        due("no work and no citation", none.addToCitation(0), -1);
        CitationFormatter x = Checks.loaded("workKa07a;");
        due("no citation", x.addToCitation(0), -2);
        for (int work : new int[] {LEAST, -1, 1, GREATEST}) {
            due("no work and no citation", x.addToCitation(work), -1);
        }
    }

    private static void stateRatherThanLimit() {
        precedence();
        CitationFormatter x = full();
        for (int work = 0; work < 5; work++) {
            due("cited already, and five works", x.addToCitation(work), -2);
        }
        for (int work = 5; work < 8; work++) {
            due("not cited, and five works", x.addToCitation(work), -3);
        }
    }

    private static void argumentRatherThanNone() {
        CHECKS.sentence("Returns the code of this character of the bibliography entry at the "
                + "position; INVALID_ARGUMENT if there is no such position or the index is negative; "
                + "NONE if the entry has no such character.");
        CitationFormatter x = Checks.loaded("workKa07a;");
        due("no citation, and no such character", x.renderedCharacter(0, 99), -1);
        due("no position, and no such character", x.entryCharacter(1, 99), -1);
        due("no work, and no suffix", x.suffixOf(1), -1);
    }

    private static CitationFormatter small() {
        CitationFormatter x = Checks.loaded("workKaLb07a;workKaMb07b;");
        x.setEtAl(2, 1);
        x.beginCitation(1);
        Checks.type(x, "workNa08c");
        return x;
    }

    private static CitationFormatter withoutCitations() {
        CitationFormatter x = Checks.loaded("workKa07a;workKb07b;workLa08a;");
        x.setStyle(1);
        Checks.type(x, "[1-3");
        return x;
    }

    /** Eight works, ten citations, five works in the last one, a full buffer, all edits kept. */
    private static CitationFormatter full() {
        CitationFormatter x = Checks.loaded("workKa07a;workKb07b;workLa08a;workLa08b;workMaNb09a;"
                + "workMaNbOc09b;workPa10a;workQa11b;");
        for (int citation = 0; citation < 9; citation++) {
            x.beginCitation(citation % 8);
        }
        Checks.cite(x, 4, 3, 2, 1, 0);
        Checks.type(x, "workZz99z" + " ".repeat(141));
        return x;
    }

    private static CitationFormatter wholeText() {
        CitationFormatter x = new CitationFormatter();
        Checks.type(x, "[1]");
        return x;
    }

    private static void errorsChangeNothing() {
        CHECKS.sentence("A call that returns an error changes nothing.");
        List<Supplier<CitationFormatter>> states = List.of(CitationFormatter::new,
                ErrorBoundsTest::small, ErrorBoundsTest::withoutCitations, ErrorBoundsTest::full,
                ErrorBoundsTest::wholeText);
        Map<String, Integer> errors = new TreeMap<>();
        for (Supplier<CitationFormatter> state : states) {
            String before = seen(state, x -> 0);
            for (Call call : calls()) {
                int answer = call.call().applyAsInt(state.get());
                if (answer < 0) {
                    errors.merge(call.name(), 1, Integer::sum);
                }
                String after = seen(state, call.call());
                if (answer < 0 || call.kind() == Kind.INSPECTION) {
                    CHECKS.dueText(call.name() + call.arguments(), after, before);
                } else if (call.kind() == Kind.EDIT) {
                    // An edit can be undone, even if it changes nothing, so something is different.
                    due(call.name() + call.arguments() + " is seen", after.equals(before) ? 0 : 1, 1);
                }
            }
        }
        for (Call call : calls()) {
            boolean never = List.of("clearText", "workCount", "citationCount").contains(call.name());
            due(call.name() + " has errors", errors.getOrDefault(call.name(), 0) > 0 ? 1 : 0,
                    never ? 0 : 1);
        }
    }

    private static List<Call> calls() {
        List<Call> calls = new ArrayList<>();
        one(calls, "appendCharacter", Kind.TEXT, x -> x::appendCharacter, LEAST, -1, 256, GREATEST, 0);
        none(calls, "clearText", Kind.TEXT, CitationFormatter::clearText);
        none(calls, "loadWorks", Kind.EDIT, CitationFormatter::loadWorks);
        none(calls, "expandNumbers", Kind.TEXT, CitationFormatter::expandNumbers);
        one(calls, "removeWork", Kind.EDIT, x -> x::removeWork, VALUES);
        two(calls, "setYear", Kind.EDIT, x -> x::setYear, LEAST, -1, 0, 2, 7, 8, 99, 100, GREATEST);
        one(calls, "setStyle", Kind.EDIT, x -> x::setStyle, VALUES);
        two(calls, "setEtAl", Kind.EDIT, x -> x::setEtAl, LEAST, -1, 0, 1, 3, 4, 5, 6, GREATEST);
        one(calls, "setDisambiguation", Kind.EDIT, x -> x::setDisambiguation, VALUES);
        one(calls, "setCollapseLevel", Kind.EDIT, x -> x::setCollapseLevel, VALUES);
        int[] slots = {LEAST, -1, 0, 2, 3, GREATEST};
        for (int slot : slots) {
            two(calls, "setSortSlot", Kind.EDIT, x -> (key, way) -> x.setSortSlot(slot, key, way),
                    LEAST, -1, 0, 1, 2, 3, 4, GREATEST);
        }
        one(calls, "setNumbering", Kind.EDIT, x -> x::setNumbering, VALUES);
        one(calls, "setCiteOrder", Kind.EDIT, x -> x::setCiteOrder, VALUES);
        one(calls, "beginCitation", Kind.EDIT, x -> x::beginCitation, VALUES);
        one(calls, "addToCitation", Kind.EDIT, x -> x::addToCitation, VALUES);
        one(calls, "removeCitation", Kind.EDIT, x -> x::removeCitation, VALUES);
        none(calls, "undo", Kind.UNDO, CitationFormatter::undo);
        addInspections(calls);
        return calls;
    }

    private static void addInspections(List<Call> calls) {
        none(calls, "workCount", Kind.INSPECTION, CitationFormatter::workCount);
        none(calls, "citationCount", Kind.INSPECTION, CitationFormatter::citationCount);
        one(calls, "authorCount", Kind.INSPECTION, x -> x::authorCount, VALUES);
        one(calls, "citationSize", Kind.INSPECTION, x -> x::citationSize, VALUES);
        one(calls, "bibliographyAt", Kind.INSPECTION, x -> x::bibliographyAt, VALUES);
        one(calls, "numberOf", Kind.INSPECTION, x -> x::numberOf, VALUES);
        one(calls, "shownAuthors", Kind.INSPECTION, x -> x::shownAuthors, VALUES);
        one(calls, "showsInitials", Kind.INSPECTION, x -> x::showsInitials, VALUES);
        one(calls, "suffixOf", Kind.INSPECTION, x -> x::suffixOf, VALUES);
        one(calls, "ambiguousWith", Kind.INSPECTION, x -> x::ambiguousWith, VALUES);
        one(calls, "renderedLength", Kind.INSPECTION, x -> x::renderedLength, VALUES);
        two(calls, "renderedCharacter", Kind.INSPECTION, x -> x::renderedCharacter,
                LEAST, -1, 0, 1, 9, 10, 99, GREATEST);
        two(calls, "entryCharacter", Kind.INSPECTION, x -> x::entryCharacter,
                LEAST, -1, 0, 1, 7, 8, 99, GREATEST);
    }

    private static void none(List<Call> calls, String name, Kind kind,
            ToIntFunction<CitationFormatter> call) {
        calls.add(new Call(name, kind, "()", call));
    }

    private static void one(List<Call> calls, String name, Kind kind, OneArgument call,
            int... values) {
        for (int value : values) {
            calls.add(new Call(name, kind, "(" + value + ")", x -> call.of(x).applyAsInt(value)));
        }
    }

    private static void two(List<Call> calls, String name, Kind kind, TwoArguments call,
            int... values) {
        for (int a : values) {
            for (int b : values) {
                calls.add(new Call(name, kind, "(.. " + a + ", " + b + ")",
                        x -> call.of(x).applyAsInt(a, b)));
            }
        }
    }

    /** All that can be seen of the state behind the call; each way of looking spends an object. */
    private static String seen(Supplier<CitationFormatter> state,
            ToIntFunction<CitationFormatter> call) {
        StringBuilder all = new StringBuilder();
        CitationFormatter x = state.get();
        call.applyAsInt(x);
        lookAtSettings(x, all);
        x = state.get();
        call.applyAsInt(x);
        lookBack(x, all);
        x = state.get();
        call.applyAsInt(x);
        lookAtText(x, all);
        return all.toString();
    }

    private static void lookAtSettings(CitationFormatter x, StringBuilder all) {
        all.append(" style ").append(x.setStyle(0)).append(" et al ").append(x.setEtAl(0, 1));
        all.append(" steps ").append(x.setDisambiguation(0));
        all.append(" level ").append(x.setCollapseLevel(0));
        for (int slot = 0; slot <= 2; slot++) {
            all.append(" slot ").append(x.setSortSlot(slot, 0, 0));
        }
        all.append(" numbering ").append(x.setNumbering(0));
        all.append(" cite order ").append(x.setCiteOrder(0));
    }

    /** The state itself, and each one that undo can restore. */
    private static void lookBack(CitationFormatter x, StringBuilder all) {
        look(x, all);
        for (int left = x.undo(); left >= 0; left = x.undo()) {
            all.append(" undone, left ").append(left);
            look(x, all);
        }
    }

    private static void look(CitationFormatter x, StringBuilder all) {
        all.append(" works ").append(Checks.listing(x)).append(' ').append(Checks.numbers(x));
        all.append(' ').append(Checks.shown(x)).append(' ').append(Checks.suffixes(x));
        for (int position = 0; position < x.workCount(); position++) {
            all.append(' ').append(Checks.entry(x, position));
        }
        all.append(" citations");
        for (int citation = 0; citation < x.citationCount(); citation++) {
            all.append(' ').append(x.citationSize(citation));
            all.append(Checks.rendered(x, citation));
        }
    }

    private static void lookAtText(CitationFormatter x, StringBuilder all) {
        all.append(" expand ").append(x.expandNumbers()).append(" load ").append(x.loadWorks());
        all.append(" more ").append(x.appendCharacter(';')).append(" load ").append(x.loadWorks());
        all.append(" clear ").append(x.clearText());
        look(x, all);
    }
}
