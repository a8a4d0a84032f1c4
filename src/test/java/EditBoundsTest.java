import java.util.function.IntUnaryOperator;

/** The bounds of promises 6 to 18: a test for each sentence of the document that names one. */
public final class EditBoundsTest {
    private static final Checks CHECKS = new Checks();

    public static void main(String[] args) {
        removeWork();
        removeWorkMovesDown();
        removeWorkFromCitations();
        setYear();
        setYearAnswer();
        setStyle();
        setEtAl();
        setEtAlAnswer();
        setDisambiguation();
        setCollapseLevel();
        setSortSlot();
        setSortSlotAnswer();
        setNumbering();
        setCiteOrder();
        atMostTenCitations();
        oneToFiveWorks();
        beginCitation();
        addToCitationTakesTheLast();
        addToCitation();
        removeCitationMovesDown();
        removeCitation();
        editsThatChangeNothing();
        callsThatAreNoEdits();
        undoOfTheLatest();
        undoOfEachSetting();
        undoLeavesTheBuffer();
        lastEightEdits();
        undoRingGoesRound();
        undoAnswer();
        CHECKS.close("EditBoundsTest");
    }

    private static void due(String call, int got, int want) {
        CHECKS.due(call, got, want);
    }

    private static void dueText(String call, String got, String want) {
        CHECKS.dueText(call, got, want);
    }

    /** Works A01a, B02b and so on. */
    private static CitationFormatter works(int count) {
        StringBuilder text = new StringBuilder();
        for (int work = 0; work < count; work++) {
            text.append("work").append((char) ('A' + work)).append("a0").append(work + 1);
            text.append((char) ('a' + work)).append(';');
        }
        return Checks.loaded(text.toString());
    }

    /** The values next to the range and the farthest ones answer -1. */
    private static void dueOutside(String call, IntUnaryOperator x, int least, int greatest) {
        int[] outside = {Integer.MIN_VALUE, Integer.MIN_VALUE + 1, least - 2, least - 1,
            greatest + 1, greatest + 2, Integer.MAX_VALUE - 1, Integer.MAX_VALUE};
        for (int value : outside) {
            due(call + "(" + value + ")", x.applyAsInt(value), -1);
        }
    }

    /** Each value of the range is taken, and the next call answers it. */
    private static void dueRange(String call, IntUnaryOperator x, int greatest, int initial) {
        int previous = initial;
        for (int value = 0; value <= greatest; value++) {
            due(call + "(" + value + ")", x.applyAsInt(value), previous);
            due(call + "(" + value + ") again", x.applyAsInt(value), value);
            dueOutside(call, x, 0, greatest);
            previous = value;
        }
        due(call + " back to 0", x.applyAsInt(0), previous);
    }

    private static void removeWork() {
        CHECKS.sentence("Returns the number of citations that are left; INVALID_ARGUMENT if there is "
                + "no such work.");
        for (int works = 0; works <= 8; works++) {
            CitationFormatter x = works(works);
            dueOutside("removeWork", x::removeWork, 0, works - 1);
            due("none is removed", x.workCount(), works);
            for (int left = works - 1; left >= 0; left--) {
                due("remove the last one", x.removeWork(left), 0);
                due("left", x.workCount(), left);
                due("it is gone", x.removeWork(left), -1);
            }
        }
        CitationFormatter x = works(2);
        for (int citation = 0; citation < 10; citation++) {
            x.beginCitation(0);
        }
        due("ten are left", x.removeWork(1), 10);
        due("none is left", x.removeWork(0), 0);
    }

    private static void removeWorkMovesDown() {
        CHECKS.sentence("The works with greater numbers move down by one.");
        for (int removed = 0; removed < 8; removed++) {
            CitationFormatter x = works(8);
            x.setSortSlot(0, 0, 0);
            x.setSortSlot(1, 0, 0);
            x.removeWork(removed);
            for (int work = 0; work < 7; work++) {
                int before = work < removed ? work : work + 1;
                dueText("work " + work + " without " + removed, Checks.entry(x, work),
                        (char) ('A' + before) + "a(0" + (before + 1) + ")"
                        + (char) ('a' + before) + ".");
            }
            due("no eighth", x.bibliographyAt(7), -1);
        }
        CitationFormatter x = Checks.loaded("workAa01a;workBaBbBcBd02b;");
        x.removeWork(0);
        due("all four authors move", x.authorCount(0), 4);
        dueText("with their letters", Checks.entry(x, 0), "Ba&Bb&Bc&Bd(02)b.");
    }

    private static void removeWorkFromCitations() {
        CHECKS.sentence("The work is removed from all citations; citations that cite no work any "
                + "more are removed, and the citations behind them move down.");
        CitationFormatter x = works(6);
        Checks.cite(x, 2);
        Checks.cite(x, 5, 4, 3, 2, 1);
        Checks.cite(x, 2);
        Checks.cite(x, 2, 0);
        Checks.cite(x, 0);
        Checks.cite(x, 2);
        due("three of six are left", x.removeWork(2), 3);
        due("citationCount", x.citationCount(), 3);
        due("the first one has lost one", x.citationSize(0), 4);
        dueText("the first one", Checks.rendered(x, 0), "(F06;E05;D04;B02)");
        dueText("the second one", Checks.rendered(x, 1), "(A01)");
        dueText("the third one", Checks.rendered(x, 2), "(A01)");
        due("no fourth one", x.citationSize(3), -1);
        due("all but one are left without work 0", x.removeWork(0), 1);
        due("cited alone", x.removeWork(3), 1);
        dueText("what is left", Checks.rendered(x, 0), "(E05;D04;B02)");
    }

    private static void setYear() {
        CHECKS.sentence("Returns the previous year; INVALID_ARGUMENT if there is no such work or the "
                + "year is out of range.");
        CitationFormatter x = works(8);
        dueOutside("year", year -> x.setYear(7, year), 0, 99);
        dueOutside("work", work -> x.setYear(work, 0), 0, 7);
        dueOutside("work and year", value -> x.setYear(value, value), 0, 99);
        due("no edit in all that", x.undo(), 0);
        CitationFormatter none = new CitationFormatter();
        due("no work at all", none.setYear(0, 0), -1);
    }

    private static void setYearAnswer() {
        CHECKS.sentence("Sets the year of a work.");
        CitationFormatter x = works(8);
        int previous = 8;
        for (int year = 0; year <= 99; year++) {
            due("work 7", x.setYear(7, year), previous);
            previous = year;
        }
        due("work 0 is another one", x.setYear(0, 99), 1);
        due("work 6 is another one", x.setYear(6, 0), 7);
        due("work 7 has the last year", x.setYear(7, 0), 99);
        due("work 0 has its own", x.setYear(0, 0), 99);
    }

    private static void setStyle() {
        CHECKS.sentence("Returns the previous style; INVALID_ARGUMENT if the argument is out of "
                + "range.");
        CitationFormatter x = new CitationFormatter();
        dueRange("setStyle", x::setStyle, 2, 0);
    }

    private static void setEtAl() {
        CHECKS.sentence("Returns 10 times the previous etAlMinimum plus the previous etAlFirst; "
                + "INVALID_ARGUMENT if an argument is out of range.");
        CitationFormatter x = new CitationFormatter();
        int previous = 31;
        for (int minimum = 0; minimum <= 5; minimum++) {
            for (int first = 1; first <= 3; first++) {
                due("setEtAl(" + minimum + ", " + first + ")", x.setEtAl(minimum, first), previous);
                previous = 10 * minimum + first;
            }
        }
        for (int i = 0; i <= 5; i++) {
            int minimum = i;
            dueOutside("first", value -> x.setEtAl(minimum, value), 1, 3);
        }
        for (int i = 1; i <= 3; i++) {
            int first = i;
            dueOutside("minimum", value -> x.setEtAl(value, first), 0, 5);
        }
        dueOutside("both", value -> x.setEtAl(value, value), 0, 5);
        due("the last that was taken", x.setEtAl(0, 1), 53);
    }

    private static void setEtAlAnswer() {
        CHECKS.sentence("Two settings control how author lists are shortened: etAlMinimum (0 to 5, "
                + "initially 3) and etAlFirst (1 to 3, initially 1).");
        CitationFormatter x = Checks.loaded("workAaBbCcDd00a;workEeFf00a;workGgHhIi00a;");
        dueText("initially", Checks.shown(x), "121");
        due("initially 3 and 1", x.setEtAl(3, 1), 31);
        due("minimum 6", x.setEtAl(6, 1), -1);
        due("minimum -1", x.setEtAl(-1, 1), -1);
        due("first 0", x.setEtAl(3, 0), -1);
        due("first 4", x.setEtAl(3, 4), -1);
        dueText("as before", Checks.shown(x), "121");
        due("the greatest of both", x.setEtAl(5, 3), 31);
        dueText("no work has five authors", Checks.shown(x), "423");
        due("the least of both", x.setEtAl(0, 1), 53);
        dueText("0 shortens none", Checks.shown(x), "423");
    }

    private static void setDisambiguation() {
        CHECKS.sentence("Returns the previous bit set; INVALID_ARGUMENT if the argument is out of "
                + "range.");
        CitationFormatter x = new CitationFormatter();
        dueRange("setDisambiguation", x::setDisambiguation, 7, 7);
    }

    private static void setCollapseLevel() {
        CHECKS.sentence("Returns the previous level; INVALID_ARGUMENT if the argument is out of "
                + "range.");
        CitationFormatter x = new CitationFormatter();
        dueRange("setCollapseLevel", x::setCollapseLevel, 2, 0);
    }

    private static void setSortSlot() {
        CHECKS.sentence("Returns 2 times the previous key plus the previous direction; "
                + "INVALID_ARGUMENT if an argument is out of range.");
        CitationFormatter x = new CitationFormatter();
        for (int slot = 0; slot <= 2; slot++) {
            int s = slot;
            dueOutside("key", key -> x.setSortSlot(s, key, 0), 0, 3);
            dueOutside("direction", direction -> x.setSortSlot(s, 3, direction), 0, 1);
            dueOutside("key and direction", value -> x.setSortSlot(s, value, value), 0, 3);
        }
        for (int key = 0; key <= 3; key++) {
            int k = key;
            dueOutside("slot", slot -> x.setSortSlot(slot, k, 1), 0, 2);
        }
        dueOutside("all three", value -> x.setSortSlot(value, value, value), 0, 3);
        int[] previous = {2, 4, 0};
        for (int key = 0; key <= 3; key++) {
            for (int direction = 0; direction <= 1; direction++) {
                for (int slot = 0; slot <= 2; slot++) {
                    due("slot " + slot, x.setSortSlot(slot, key, direction), previous[slot]);
                    previous[slot] = 2 * key + direction;
                }
            }
        }
        due("slot 2 at last", x.setSortSlot(2, 0, 0), 7);
    }

    private static void setSortSlotAnswer() {
        CHECKS.sentence("Initially slot 0 holds author ascending, slot 1 holds year ascending, and "
                + "slot 2 holds none.");
        CitationFormatter x = new CitationFormatter();
        due("slot 0", x.setSortSlot(0, 1, 0), 2);
        due("slot 1", x.setSortSlot(1, 2, 0), 4);
        due("slot 2", x.setSortSlot(2, 0, 0), 0);
        due("slot 3", x.setSortSlot(3, 0, 0), -1);
    }

    private static void setNumbering() {
        CHECKS.sentence("Returns the previous numbering; INVALID_ARGUMENT if the argument is out of "
                + "range.");
        CitationFormatter x = new CitationFormatter();
        dueRange("setNumbering", x::setNumbering, 1, 0);
    }

    private static void setCiteOrder() {
        CHECKS.sentence("Returns the previous cite order; INVALID_ARGUMENT if the argument is out of "
                + "range.");
        CitationFormatter x = new CitationFormatter();
        dueRange("setCiteOrder", x::setCiteOrder, 1, 0);
    }

    private static void atMostTenCitations() {
        CHECKS.sentence("There are at most 10 citations, numbered from 0.");
        CitationFormatter x = works(8);
        for (int count = 0; count < 10; count++) {
            due("citationCount", x.citationCount(), count);
            due("none behind the last", x.citationSize(count), -1);
            due("the next number", x.beginCitation(count % 8), count);
        }
        due("an eleventh", x.beginCitation(0), -3);
        due("ten", x.citationCount(), 10);
        due("the tenth", x.citationSize(9), 1);
        due("no eleventh", x.citationSize(10), -1);
        x.removeCitation(4);
        due("there is place for one", x.beginCitation(7), 9);
        due("and for no other", x.beginCitation(7), -3);
    }

    private static void oneToFiveWorks() {
        CHECKS.sentence("A citation cites 1 to 5 different works, in the order in which they were "
                + "added.");
        CitationFormatter x = works(8);
        due("one", x.beginCitation(7), 0);
        due("size 1", x.citationSize(0), 1);
        due("the same one", x.addToCitation(7), -2);
        for (int size = 2; size <= 5; size++) {
            due("add", x.addToCitation(8 - size), size);
            due("size", x.citationSize(0), size);
            due("the first one once more", x.addToCitation(7), -2);
            due("the latest one once more", x.addToCitation(8 - size), -2);
        }
        due("a sixth", x.addToCitation(0), -3);
        due("five stay", x.citationSize(0), 5);
        dueText("in this order", Checks.rendered(x, 0), "(H08;G07;F06;E05;D04)");
        due("another citation may cite the same", x.beginCitation(7), 1);
    }

    private static void beginCitation() {
        CHECKS.sentence("Returns the number of the new citation; INVALID_ARGUMENT if there is no "
                + "such work; LIMIT_REACHED if there are 10 citations.");
        CitationFormatter none = new CitationFormatter();
        due("no works", none.beginCitation(0), -1);
        for (int works = 1; works <= 8; works++) {
            CitationFormatter x = works(works);
            dueOutside("beginCitation", x::beginCitation, 0, works - 1);
            due("work 0", x.beginCitation(0), 0);
            due("the last work", x.beginCitation(works - 1), 1);
            due("no other was begun", x.citationCount(), 2);
        }
        CitationFormatter x = works(1);
        for (int citation = 0; citation < 10; citation++) {
            due("citation", x.beginCitation(0), citation);
        }
        due("an eleventh", x.beginCitation(0), -3);
        dueOutside("no such work, and no place", x::beginCitation, 0, 0);
    }

    private static void addToCitationTakesTheLast() {
        CHECKS.sentence("Adds a work to the last citation.");
        CitationFormatter x = works(3);
        Checks.cite(x, 0);
        Checks.cite(x, 1);
        due("added", x.addToCitation(2), 2);
        due("the first one stays", x.citationSize(0), 1);
        dueText("the last one", Checks.rendered(x, 1), "(B02;C03)");
        x.removeCitation(1);
        due("added to what is the last now", x.addToCitation(2), 2);
        dueText("it", Checks.rendered(x, 0), "(A01;C03)");
    }

    private static void addToCitation() {
        CHECKS.sentence("Returns how many works the citation cites now; INVALID_ARGUMENT if there is "
                + "no such work; INVALID_STATE if there is no citation, or if the last citation "
                + "cites the work already; LIMIT_REACHED if it cites 5 works.");
        CitationFormatter x = works(8);
        due("no citation", x.addToCitation(0), -2);
        due("no citation, the last work", x.addToCitation(7), -2);
        dueOutside("no citation and no such work", x::addToCitation, 0, 7);
        Checks.cite(x, 3);
        dueOutside("no such work", x::addToCitation, 0, 7);
        due("cited already", x.addToCitation(3), -2);
        due("the first work", x.addToCitation(0), 2);
        due("the last work", x.addToCitation(7), 3);
        due("a fourth", x.addToCitation(1), 4);
        due("a fifth", x.addToCitation(2), 5);
        due("a sixth", x.addToCitation(4), -3);
        for (int cited : new int[] {3, 0, 7, 1, 2}) {
            due("cited already, and full", x.addToCitation(cited), -2);
        }
        dueOutside("no such work, and full", x::addToCitation, 0, 7);
        x.beginCitation(5);
        due("cited by another citation alone", x.addToCitation(3), 2);
        x.removeCitation(0);
        x.removeCitation(0);
        due("no citation any more", x.addToCitation(0), -2);
    }

    private static void removeCitationMovesDown() {
        CHECKS.sentence("The citations behind it move down by one.");
        for (int removed = 0; removed < 10; removed++) {
            CitationFormatter x = works(8);
            for (int citation = 0; citation < 10; citation++) {
                Checks.cite(x, citation % 8, (citation + 1 + citation / 8) % 8);
            }
            due("removed", x.removeCitation(removed), 2);
            for (int citation = 0; citation < 9; citation++) {
                int before = citation < removed ? citation : citation + 1;
                int second = (before + 1 + before / 8) % 8;
                String want = "(" + (char) ('A' + before % 8) + "0" + (before % 8 + 1) + ";"
                        + (char) ('A' + second) + "0" + (second + 1) + ")";
                dueText("citation " + citation, Checks.rendered(x, citation), want);
            }
            due("no tenth", x.citationSize(9), -1);
        }
    }

    private static void removeCitation() {
        CHECKS.sentence("Returns how many works it cited; INVALID_ARGUMENT if there is no such "
                + "citation.");
        CitationFormatter x = works(8);
        dueOutside("of none", x::removeCitation, 0, -1);
        due("of none", x.removeCitation(0), -1);
        int[][] cited = {{0}, {1, 0}, {2, 1, 0}, {3, 2, 1, 0}, {4, 3, 2, 1, 0}};
        for (int[] works : cited) {
            Checks.cite(x, works);
        }
        dueOutside("of five", x::removeCitation, 0, 4);
        for (int size = 5; size >= 1; size--) {
            due("the last one", x.removeCitation(size - 1), size);
            due("left", x.citationCount(), size - 1);
            due("it is gone", x.removeCitation(size - 1), -1);
        }
        for (int citation = 0; citation < 10; citation++) {
            x.beginCitation(0);
        }
        dueOutside("of ten", x::removeCitation, 0, 9);
        due("the tenth", x.removeCitation(9), 1);
    }

    private static void editsThatChangeNothing() {
        CHECKS.sentence("The successful calls of loadWorks, removeWork, setYear, setStyle, setEtAl, "
                + "setDisambiguation, setCollapseLevel, setSortSlot, setNumbering, setCiteOrder, "
                + "beginCitation, addToCitation and removeCitation are edits, even if they change "
                + "nothing.");
        CitationFormatter x = new CitationFormatter();
        x.loadWorks();
        due("an empty text into an empty database", x.undo(), 0);
        x.setStyle(0);
        due("the same style", x.undo(), 0);
        x.setEtAl(3, 1);
        due("the same et al", x.undo(), 0);
        x.setDisambiguation(7);
        due("the same steps", x.undo(), 0);
        x.setCollapseLevel(0);
        due("the same level", x.undo(), 0);
        x.setSortSlot(0, 1, 0);
        due("the same slot", x.undo(), 0);
        x.setNumbering(0);
        due("the same numbering", x.undo(), 0);
        x.setCiteOrder(0);
        due("the same cite order", x.undo(), 0);
        due("nothing is left", x.undo(), -2);
        x = works(2);
        x.setYear(1, 2);
        due("the same year", x.undo(), 1);
        x.beginCitation(0);
        due("beginCitation", x.undo(), 1);
        x.beginCitation(0);
        x.addToCitation(1);
        due("addToCitation", x.undo(), 2);
        x.removeCitation(0);
        due("removeCitation", x.undo(), 2);
        x.removeWork(1);
        due("removeWork", x.undo(), 2);
        due("two works as before", x.workCount(), 2);
        due("one citation as before", x.citationCount(), 1);
    }

    private static void callsThatAreNoEdits() {
        CHECKS.sentence("The successful calls of loadWorks, removeWork, setYear, setStyle, setEtAl, "
                + "setDisambiguation, setCollapseLevel, setSortSlot, setNumbering, setCiteOrder, "
                + "beginCitation, addToCitation and removeCitation are edits, even if they change "
                + "nothing.");
        CitationFormatter x = works(2);
        x.beginCitation(1);
        x.setYear(0, 77);
        Checks.type(x, "[1]");
        x.expandNumbers();
        x.appendCharacter('x');
        x.clearText();
        x.workCount();
        x.authorCount(0);
        x.citationCount();
        x.citationSize(0);
        x.bibliographyAt(0);
        x.numberOf(0);
        x.shownAuthors(0);
        x.showsInitials(0);
        x.suffixOf(0);
        x.ambiguousWith(0);
        x.renderedLength(0);
        x.renderedCharacter(0, 0);
        x.entryCharacter(0, 0);
        due("the year is undone", x.undo(), 2);
        due("it is back", x.setYear(0, 5), 1);
        due("the same edit, once more", x.undo(), 2);
        due("an undo is no edit: the citation goes", x.undo(), 1);
        due("no citation", x.citationCount(), 0);
        due("the works go", x.undo(), 0);
        due("no works", x.workCount(), 0);
    }

    private static void undoOfTheLatest() {
        CHECKS.sentence("Undoes the latest edit.");
        CitationFormatter x = works(1);
        x.setYear(0, 10);
        x.setYear(0, 20);
        due("20 is undone", x.undo(), 2);
        x.setYear(0, 30);
        due("30 is undone", x.undo(), 2);
        due("10 is undone", x.undo(), 1);
        due("as it was loaded", x.setYear(0, 40), 1);
        CitationFormatter all = works(3);
        Checks.cite(all, 2, 1);
        Checks.type(all, "workZz99z;");
        all.loadWorks();
        all.undo();
        dueText("the works of before", Checks.entry(all, 2), "Ca(03)c.");
        dueText("the citation of before", Checks.rendered(all, 0), "(C03;B02)");
        all.removeWork(1);
        all.undo();
        dueText("the work that was removed", Checks.entry(all, 1), "Ba(02)b.");
        dueText("it is cited again", Checks.rendered(all, 0), "(C03;B02)");
    }

    /** Each setting is set as far from its initial value as can be, and then undone. */
    private static void undoOfEachSetting() {
        CHECKS.sentence("undo() restores the works, all settings and the citations as they were "
                + "before the latest edit that has not been undone; it does not affect the text "
                + "buffer.");
        CitationFormatter x = works(1);
        dueUndone("style", x, x::setStyle, 2, 0);
        dueUndone("minimum", x, minimum -> x.setEtAl(minimum, 1), 5, 31);
        dueUndone("first", x, first -> x.setEtAl(3, first), 3, 31);
        dueUndone("steps", x, x::setDisambiguation, 0, 7);
        dueUndone("level", x, x::setCollapseLevel, 2, 0);
        for (int i = 0; i <= 2; i++) {
            int slot = i;
            int initial = new int[] {2, 4, 0}[slot];
            dueUndone("key", x, key -> x.setSortSlot(slot, key, 0), 3, initial);
            dueUndone("direction", x, way -> x.setSortSlot(slot, initial / 2, way), 1, initial);
        }
        dueUndone("numbering", x, x::setNumbering, 1, 0);
        dueUndone("cite order", x, x::setCiteOrder, 1, 0);
        dueUndone("year", x, year -> x.setYear(0, year), 99, 1);
    }

    private static void dueUndone(String what, CitationFormatter x, IntUnaryOperator set, int value,
            int before) {
        due(what + " is set", set.applyAsInt(value), before);
        due(what + " is undone", x.undo(), 1);
        due(what + " is as before", set.applyAsInt(value), before);
        due(what + " is undone again", x.undo(), 1);
    }

    private static void undoLeavesTheBuffer() {
        CHECKS.sentence("undo() restores the works, all settings and the citations as they were "
                + "before the latest edit that has not been undone; it does not affect the text "
                + "buffer.");
        CitationFormatter x = new CitationFormatter();
        Checks.type(x, "workAa00a;");
        x.loadWorks();
        due("loading undone", x.undo(), 0);
        due("the text does not come back", x.clearText(), 0);
        x.setStyle(1);
        Checks.type(x, "workAa00a;");
        due("a setting undone", x.undo(), 0);
        due("the text stays", x.loadWorks(), 1);
        Checks.type(x, " ".repeat(150));
        due("nothing comes in", x.appendCharacter(' '), -3);
        due("loading undone, the buffer full", x.undo(), 0);
        due("it stays full", x.appendCharacter(' '), -3);
        due("with 150", x.clearText(), 150);
    }

    private static void lastEightEdits() {
        CHECKS.sentence("The last 8 edits can be undone.");
        for (int edits = 0; edits <= 20; edits++) {
            CitationFormatter x = new CitationFormatter();
            for (int edit = 1; edit <= edits; edit++) {
                x.setEtAl(edit % 6, 1 + edit % 3);
            }
            int possible = Math.min(edits, 8);
            for (int left = possible - 1; left >= 0; left--) {
                due(edits + " edits, left", x.undo(), left);
            }
            due(edits + " edits, one too many", x.undo(), -2);
            due(edits + " edits, and again", x.undo(), -2);
            int reached = edits - possible;
            int want = reached == 0 ? 31 : 10 * (reached % 6) + 1 + reached % 3;
            due(edits + " edits, what is reached", x.setEtAl(0, 1), want);
            due(edits + " edits, that one alone", x.undo(), 0);
            due(edits + " edits, none older comes up", x.undo(), -2);
        }
    }

    /** Edits and undos in turn, so that the places for the states are used over and over. */
    private static void undoRingGoesRound() {
        CHECKS.sentence("The last 8 edits can be undone.");
        for (int back = 1; back <= 8; back++) {
            CitationFormatter x = Checks.loaded("workAa00a;");
            for (int year = 1; year <= 8; year++) {
                x.setYear(0, year);
            }
            for (int round = 0; round < 11; round++) {
                for (int undone = 1; undone <= back; undone++) {
                    due("left", x.undo(), 8 - undone);
                }
                for (int year = 9 - back; year <= 8; year++) {
                    due("the year before", x.setYear(0, year), year - 1);
                }
            }
            due("still eight", x.undo(), 7);
        }
    }

    private static void undoAnswer() {
        CHECKS.sentence("Returns how many edits can still be undone; INVALID_STATE if there is none "
                + "to undo.");
        CitationFormatter x = new CitationFormatter();
        due("none", x.undo(), -2);
        due("none, again", x.undo(), -2);
        x.setStyle(3);
        due("none after an error", x.undo(), -2);
        x.setStyle(1);
        due("one", x.undo(), 0);
        due("none after it", x.undo(), -2);
        due("the style is the first one", x.setStyle(1), 0);
        x.setStyle(2);
        due("the second of two", x.undo(), 1);
        due("the first of two", x.undo(), 0);
        due("none of two", x.undo(), -2);
    }
}
