/** Promises 6 to 18: the edits of works, settings and citations, and undo. */
public final class EditPromisesTest {
    private static final String FOUR_WORKS = "workDa04d;workCaXx03c;workBaXxYy02b;workAa01a;";
    private static final Checks CHECKS = new Checks();

    public static void main(String[] args) {
        promise6RemoveWork();
        promise6EmptiesCitations();
        promise7SetYear();
        promise8SetStyle();
        promise9SetEtAl();
        promise10SetDisambiguation();
        promise11SetCollapseLevel();
        promise12SetSortSlot();
        promise13SetNumbering();
        promise14SetCiteOrder();
        promise15BeginCitation();
        promise16AddToCitation();
        promise17RemoveCitation();
        promise18UndoOfEachEdit();
        promise18UndoOfWorksAndCitations();
        promise18UndoDepth();
        promise18ErrorsAreNoEdits();
        CHECKS.close("EditPromisesTest");
    }

    private static void due(String call, int got, int want) {
        CHECKS.due(call, got, want);
    }

    private static void dueText(String call, String got, String want) {
        CHECKS.dueText(call, got, want);
    }

    private static void promise6RemoveWork() {
        CitationFormatter x = Checks.loaded(FOUR_WORKS);
        due("removeWork(-1)", x.removeWork(-1), -1);
        due("removeWork(4)", x.removeWork(4), -1);
        due("removeWork(1)", x.removeWork(1), 0);
        due("three are left", x.workCount(), 3);
        due("work 2 moved down", x.authorCount(1), 3);
        due("work 3 moved down", x.authorCount(2), 1);
        dueText("entry 0", Checks.entry(x, 0), "Aa(01)a.");
        dueText("entry 1", Checks.entry(x, 1), "Ba&Xx&Yy(02)b.");
        dueText("entry 2", Checks.entry(x, 2), "Da(04)d.");
        due("removeWork(3)", x.removeWork(3), -1);
        due("the last one goes", x.removeWork(2), 0);
        x.removeWork(0);
        due("no work is left", x.removeWork(0), 0);
        due("none to remove", x.removeWork(0), -1);
        CitationFormatter eight = Checks.loaded("workAa00a;".repeat(7) + "workAaBb01b;");
        eight.removeWork(0);
        due("the last of eight moved down", eight.authorCount(6), 2);
        due("seven are left", eight.authorCount(7), -1);
    }

    private static void promise6EmptiesCitations() {
        CitationFormatter x = Checks.loaded(FOUR_WORKS);
        x.setStyle(1);
        Checks.cite(x, 1);
        Checks.cite(x, 3, 1, 0);
        Checks.cite(x, 1);
        Checks.cite(x, 2, 0);
        Checks.cite(x, 1, 3);
        due("removeWork(1)", x.removeWork(1), 3);
        due("citationCount", x.citationCount(), 3);
        due("citationSize(0)", x.citationSize(0), 2);
        due("citationSize(1)", x.citationSize(1), 2);
        due("citationSize(2)", x.citationSize(2), 1);
        due("citationSize(3)", x.citationSize(3), -1);
        dueText("citation 0", Checks.rendered(x, 0), "[1,3]");
        dueText("citation 1", Checks.rendered(x, 1), "[2,3]");
        dueText("citation 2", Checks.rendered(x, 2), "[1]");
        due("the last work can be added to", x.addToCitation(0), 2);
        due("removing all that is cited last", x.removeWork(2), 3);
        CitationFormatter ten = Checks.loaded(FOUR_WORKS);
        for (int citation = 0; citation < 10; citation++) {
            ten.beginCitation(citation == 9 ? 2 : 3);
        }
        due("one of ten is left", ten.removeWork(3), 1);
        dueText("it moved down", Checks.rendered(ten, 0), "(B+02)");
        due("all of ten are back", ten.undo(), 7);
        due("ten citations", ten.citationCount(), 10);
        ten.setNumbering(1);
        dueText("the numbers of ten citations", Checks.numbers(ten), "4321");
        due("the first of ten goes", ten.removeCitation(0), 1);
        due("the ninth is the last now", ten.citationCount(), 9);
        dueText("it is the tenth one", Checks.rendered(ten, 8), "(B+02)");
    }

    private static void promise7SetYear() {
        CitationFormatter x = Checks.loaded(FOUR_WORKS);
        due("setYear(4, 1)", x.setYear(4, 1), -1);
        due("setYear(-1, 1)", x.setYear(-1, 1), -1);
        due("setYear(0, -1)", x.setYear(0, -1), -1);
        due("setYear(0, 100)", x.setYear(0, 100), -1);
        due("setYear(0, 99)", x.setYear(0, 99), 4);
        due("setYear(0, 0)", x.setYear(0, 0), 99);
        due("setYear(0, 7)", x.setYear(0, 7), 0);
        dueText("its entry", Checks.entry(x, 3), "Da(07)d.");
        dueText("another entry", Checks.entry(x, 0), "Aa(01)a.");
    }

    private static void promise8SetStyle() {
        CitationFormatter x = Checks.loaded(FOUR_WORKS);
        x.beginCitation(1);
        due("setStyle(-1)", x.setStyle(-1), -1);
        due("setStyle(3)", x.setStyle(3), -1);
        dueText("author-year", Checks.rendered(x, 0), "(C&X03)");
        due("setStyle(1)", x.setStyle(1), 0);
        dueText("numeric", Checks.rendered(x, 0), "[3]");
        due("setStyle(2)", x.setStyle(2), 1);
        dueText("note", Checks.rendered(x, 0), "Ca&Xxc03.");
        due("setStyle(0)", x.setStyle(0), 2);
    }

    private static void promise9SetEtAl() {
        CitationFormatter x = Checks.loaded(FOUR_WORKS);
        due("setEtAl(-1, 1)", x.setEtAl(-1, 1), -1);
        due("setEtAl(6, 1)", x.setEtAl(6, 1), -1);
        due("setEtAl(3, 0)", x.setEtAl(3, 0), -1);
        due("setEtAl(3, 4)", x.setEtAl(3, 4), -1);
        dueText("from 3 authors on, 1 is shown", Checks.shown(x), "1211");
        due("setEtAl(2, 1)", x.setEtAl(2, 1), 31);
        dueText("from 2 authors on, 1 is shown", Checks.shown(x), "1111");
        due("setEtAl(1, 3)", x.setEtAl(1, 3), 21);
        dueText("from 1 author on, 3 are shown", Checks.shown(x), "1231");
        due("setEtAl(3, 2)", x.setEtAl(3, 2), 13);
        dueText("from 3 authors on, 2 are shown", Checks.shown(x), "1221");
        due("setEtAl(4, 1)", x.setEtAl(4, 1), 32);
        dueText("from 4 authors on, 1 is shown", Checks.shown(x), "1231");
        due("setEtAl(0, 1)", x.setEtAl(0, 1), 41);
        dueText("all are shown", Checks.shown(x), "1231");
        due("setEtAl(5, 3)", x.setEtAl(5, 3), 1);
        due("setEtAl(5, 3) again", x.setEtAl(5, 3), 53);
    }

    private static void promise10SetDisambiguation() {
        CitationFormatter x = Checks.loaded("workKaLbMc07a;workKaLbNd07b;workPa08a;workPb08a;"
                + "workQa09a;workQa09b;");
        due("setDisambiguation(-1)", x.setDisambiguation(-1), -1);
        due("setDisambiguation(8)", x.setDisambiguation(8), -1);
        dueText("all steps, shown", Checks.shown(x), "331i1i11");
        dueText("all steps, suffixes", Checks.suffixes(x), "----ab");
        due("setDisambiguation(0)", x.setDisambiguation(0), 7);
        dueText("no step, shown", Checks.shown(x), "111111");
        dueText("no step, suffixes", Checks.suffixes(x), "------");
        due("setDisambiguation(1)", x.setDisambiguation(1), 0);
        dueText("step 1, shown", Checks.shown(x), "331111");
        dueText("step 1, suffixes", Checks.suffixes(x), "------");
        due("setDisambiguation(2)", x.setDisambiguation(2), 1);
        dueText("step 2, shown", Checks.shown(x), "111i1i11");
        due("setDisambiguation(4)", x.setDisambiguation(4), 2);
        dueText("step 3, shown", Checks.shown(x), "111111");
        dueText("step 3, suffixes", Checks.suffixes(x), "ababab");
        due("setDisambiguation(6)", x.setDisambiguation(6), 4);
        dueText("steps 2 and 3, suffixes", Checks.suffixes(x), "ab--ab");
        due("setDisambiguation(7)", x.setDisambiguation(7), 6);
    }

    private static void promise11SetCollapseLevel() {
        CitationFormatter x = Checks.loaded("workKa07a;workKa07b;workKa08c;");
        Checks.cite(x, 0, 1, 2);
        due("setCollapseLevel(-1)", x.setCollapseLevel(-1), -1);
        due("setCollapseLevel(3)", x.setCollapseLevel(3), -1);
        dueText("level 0", Checks.rendered(x, 0), "(K07a;K07b;K08)");
        due("setCollapseLevel(1)", x.setCollapseLevel(1), 0);
        dueText("level 1", Checks.rendered(x, 0), "(K07a,07b,08)");
        due("setCollapseLevel(2)", x.setCollapseLevel(2), 1);
        dueText("level 2", Checks.rendered(x, 0), "(K07a,b,08)");
        due("setCollapseLevel(0)", x.setCollapseLevel(0), 2);
    }

    private static void promise12SetSortSlot() {
        CitationFormatter x = Checks.loaded("workBa02a;workAa02b;workBa01c;workAa03a;");
        due("setSortSlot(-1, 0, 0)", x.setSortSlot(-1, 0, 0), -1);
        due("setSortSlot(3, 0, 0)", x.setSortSlot(3, 0, 0), -1);
        due("setSortSlot(0, -1, 0)", x.setSortSlot(0, -1, 0), -1);
        due("setSortSlot(0, 4, 0)", x.setSortSlot(0, 4, 0), -1);
        due("setSortSlot(0, 0, -1)", x.setSortSlot(0, 0, -1), -1);
        due("setSortSlot(0, 0, 2)", x.setSortSlot(0, 0, 2), -1);
        dueText("author, year", Checks.listing(x), "1320");
        due("slot 0, author descending", x.setSortSlot(0, 1, 1), 2);
        dueText("author descending, year", Checks.listing(x), "2013");
        due("slot 1, year descending", x.setSortSlot(1, 2, 1), 4);
        dueText("author descending, year descending", Checks.listing(x), "0231");
        due("slot 0, title", x.setSortSlot(0, 3, 0), 3);
        dueText("title, year descending", Checks.listing(x), "3012");
        due("slot 1, none", x.setSortSlot(1, 0, 1), 5);
        dueText("title, none, none", Checks.listing(x), "0312");
        due("slot 2, year", x.setSortSlot(2, 2, 1), 0);
        dueText("title, none, year descending", Checks.listing(x), "3012");
        due("slot 0, none", x.setSortSlot(0, 0, 0), 6);
        dueText("none, none, year descending", Checks.listing(x), "3012");
        due("slot 2, none descending", x.setSortSlot(2, 0, 1), 5);
        dueText("no key", Checks.listing(x), "0123");
        due("none keeps its direction", x.setSortSlot(2, 3, 1), 1);
        dueText("title descending", Checks.listing(x), "2103");
    }

    private static void promise13SetNumbering() {
        CitationFormatter x = Checks.loaded(FOUR_WORKS);
        Checks.cite(x, 1, 3);
        due("setNumbering(-1)", x.setNumbering(-1), -1);
        due("setNumbering(2)", x.setNumbering(2), -1);
        dueText("by bibliography order", Checks.numbers(x), "4321");
        due("setNumbering(1)", x.setNumbering(1), 0);
        dueText("by first citation", Checks.numbers(x), "4132");
        due("setNumbering(0)", x.setNumbering(0), 1);
        dueText("by bibliography order again", Checks.numbers(x), "4321");
    }

    private static void promise14SetCiteOrder() {
        CitationFormatter x = Checks.loaded(FOUR_WORKS);
        Checks.cite(x, 1, 3, 0);
        due("setCiteOrder(-1)", x.setCiteOrder(-1), -1);
        due("setCiteOrder(2)", x.setCiteOrder(2), -1);
        dueText("as added", Checks.rendered(x, 0), "(C&X03;A01;D04)");
        due("setCiteOrder(1)", x.setCiteOrder(1), 0);
        dueText("sorted", Checks.rendered(x, 0), "(A01;C&X03;D04)");
        due("setCiteOrder(0)", x.setCiteOrder(0), 1);
    }

    private static void promise15BeginCitation() {
        CitationFormatter x = Checks.loaded(FOUR_WORKS);
        due("beginCitation(-1)", x.beginCitation(-1), -1);
        due("beginCitation(4)", x.beginCitation(4), -1);
        for (int citation = 0; citation < 10; citation++) {
            due("citation " + citation, x.beginCitation(citation % 4), citation);
            due("its size", x.citationSize(citation), 1);
        }
        due("an eleventh citation", x.beginCitation(0), -3);
        due("an eleventh citation of no work", x.beginCitation(4), -1);
        due("there are ten", x.citationCount(), 10);
        dueText("citation 9", Checks.rendered(x, 9), "(C&X03)");
    }

    private static void promise16AddToCitation() {
        CitationFormatter x = Checks.loaded("workAa01a;".repeat(6));
        due("no citation yet", x.addToCitation(0), -2);
        due("no citation and no work", x.addToCitation(6), -1);
        x.beginCitation(0);
        x.beginCitation(0);
        due("add to the last one", x.addToCitation(1), 2);
        due("the first one stays", x.citationSize(0), 1);
        due("the last one has grown", x.citationSize(1), 2);
        due("cited already", x.addToCitation(0), -2);
        due("addToCitation(-1)", x.addToCitation(-1), -1);
        due("addToCitation(6)", x.addToCitation(6), -1);
        due("third", x.addToCitation(2), 3);
        due("fourth", x.addToCitation(3), 4);
        due("fifth", x.addToCitation(4), 5);
        due("sixth", x.addToCitation(5), -3);
        due("cited already, and full", x.addToCitation(4), -2);
        due("no work, and full", x.addToCitation(6), -1);
        due("five it stays", x.citationSize(1), 5);
    }

    private static void promise17RemoveCitation() {
        CitationFormatter x = Checks.loaded(FOUR_WORKS);
        due("none to remove", x.removeCitation(0), -1);
        Checks.cite(x, 0);
        Checks.cite(x, 1, 2, 3);
        Checks.cite(x, 3, 0);
        due("removeCitation(-1)", x.removeCitation(-1), -1);
        due("removeCitation(3)", x.removeCitation(3), -1);
        due("removeCitation(1)", x.removeCitation(1), 3);
        due("two are left", x.citationCount(), 2);
        dueText("citation 0", Checks.rendered(x, 0), "(D04)");
        dueText("citation 1", Checks.rendered(x, 1), "(A01;D04)");
        due("add to what is the last now", x.addToCitation(2), 3);
        due("removeCitation(0)", x.removeCitation(0), 1);
        dueText("it moved down", Checks.rendered(x, 0), "(A01;D04;B+02)");
        due("the works stay", x.workCount(), 4);
        due("the last one goes", x.removeCitation(0), 3);
        due("a new one in its place", x.beginCitation(1), 0);
        due("it cites one work", x.citationSize(0), 1);
        dueText("its own", Checks.rendered(x, 0), "(C&X03)");
    }

    private static void promise18UndoOfEachEdit() {
        CitationFormatter x = new CitationFormatter();
        x.setStyle(1);
        x.setEtAl(5, 3);
        x.setDisambiguation(3);
        x.setCollapseLevel(1);
        x.setSortSlot(2, 3, 1);
        x.setNumbering(1);
        x.setCiteOrder(1);
        due("seven edits, the last undone", x.undo(), 6);
        due("cite order", x.setCiteOrder(0), 0);
        x.undo();
        due("numbering undone", x.undo(), 5);
        due("numbering", x.setNumbering(0), 0);
        x.undo();
        due("slot undone", x.undo(), 4);
        due("slot", x.setSortSlot(2, 0, 0), 0);
        x.undo();
        due("collapse level undone", x.undo(), 3);
        due("collapse level", x.setCollapseLevel(0), 0);
        x.undo();
        due("steps undone", x.undo(), 2);
        due("steps", x.setDisambiguation(7), 7);
        x.undo();
        due("et al undone", x.undo(), 1);
        due("et al", x.setEtAl(3, 1), 31);
        x.undo();
        due("style undone", x.undo(), 0);
        due("style", x.setStyle(0), 0);
        due("the last one", x.undo(), 0);
        due("nothing is left", x.undo(), -2);
        due("nothing is left, again", x.undo(), -2);
        for (int slot = 0; slot < 3; slot++) {
            int initial = x.setSortSlot(slot, 3, 1);
            x.undo();
            due("slot " + slot + " is back", x.setSortSlot(slot, 3, 1), initial);
            x.undo();
        }
    }

    private static void promise18UndoOfWorksAndCitations() {
        CitationFormatter x = Checks.loaded(FOUR_WORKS);
        Checks.cite(x, 1, 0);
        Checks.cite(x, 1);
        x.setYear(3, 55);
        due("year undone", x.undo(), 4);
        dueText("the year is back", Checks.entry(x, 0), "Aa(01)a.");
        x.removeWork(1);
        due("removal undone", x.undo(), 4);
        due("the work is back", x.authorCount(1), 2);
        due("its citation is back", x.citationCount(), 2);
        dueText("cited as before", Checks.rendered(x, 0), "(C&X03;D04)");
        x.removeCitation(0);
        due("removal of a citation undone", x.undo(), 4);
        dueText("it is back", Checks.rendered(x, 0), "(C&X03;D04)");
        due("beginCitation undone", x.undo(), 3);
        due("one citation", x.citationCount(), 1);
        due("addToCitation undone", x.undo(), 2);
        due("one work cited", x.citationSize(0), 1);
        Checks.type(x, "workZz00z;");
        x.loadWorks();
        Checks.type(x, "abc");
        due("loadWorks undone", x.undo(), 2);
        due("the works are back", x.workCount(), 4);
        due("the citation is back", x.citationCount(), 1);
        due("the buffer is left alone", x.clearText(), 3);
        due("beginCitation undone", x.undo(), 1);
        due("the first loadWorks undone", x.undo(), 0);
        due("no work", x.workCount(), 0);
    }

    private static void promise18UndoDepth() {
        CitationFormatter x = Checks.loaded("workAa10a;");
        for (int year = 11; year <= 30; year++) {
            due("setYear", x.setYear(0, year), year - 1);
        }
        for (int left = 7; left >= 0; left--) {
            due("undo, left " + left, x.undo(), left);
        }
        due("a ninth undo", x.undo(), -2);
        due("eight edits back", x.setYear(0, 50), 22);
        due("an edit after undoing", x.undo(), 0);
        for (int i = 0; i < 9; i++) {
            x.setYear(0, 60);
        }
        due("edits that change nothing count", x.undo(), 7);
        due("an edit after undo", x.setYear(0, 61), 60);
        due("goes back to 60", x.undo(), 7);
        due("the year", x.setYear(0, 61), 60);
    }

    private static void promise18ErrorsAreNoEdits() {
        CitationFormatter x = Checks.loaded("workAa10a;");
        x.beginCitation(0);
        x.setStyle(3);
        x.setEtAl(6, 1);
        x.setDisambiguation(8);
        x.setCollapseLevel(3);
        x.setSortSlot(3, 0, 0);
        x.setNumbering(2);
        x.setCiteOrder(2);
        x.beginCitation(1);
        x.addToCitation(0);
        x.removeCitation(1);
        x.removeWork(1);
        x.setYear(0, 100);
        due("the citation is the latest edit", x.undo(), 1);
        due("no citation", x.citationCount(), 0);
        x.addToCitation(0);
        x.appendCharacter('x');
        x.loadWorks();
        x.expandNumbers();
        x.clearText();
        due("the loading is the latest edit", x.undo(), 0);
        due("no work", x.workCount(), 0);
    }
}
