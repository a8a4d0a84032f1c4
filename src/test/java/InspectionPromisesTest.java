/** Promises 19 to 28: counts, the bibliography order, the numbers and the labels. */
public final class InspectionPromisesTest {
    private static final Checks CHECKS = new Checks();

    public static void main(String[] args) {
        promises19To22Counts();
        promise23AuthorKey();
        promise23AuthorKeyAfterLongerLists();
        promise23YearAndTitleKeys();
        promise23NumericListing();
        promise24NumberOf();
        promise25InitiallyShown();
        promise25AddNames();
        promise25AddNamesChoosesTheSmallest();
        promise25AddNamesSeesGroupsAlone();
        promise26AddInitials();
        promise26InitialsOfShownAuthorsAlone();
        promise27Suffixes();
        promise28AmbiguousWith();
        promise28TellsAllLettersApart();
        eachCallSeesTheLatestEdit();
        CHECKS.close("InspectionPromisesTest");
    }

    private static void due(String call, int got, int want) {
        CHECKS.due(call, got, want);
    }

    private static void dueText(String call, String got, String want) {
        CHECKS.dueText(call, got, want);
    }

    private static void promises19To22Counts() {
        CitationFormatter x = Checks.loaded("workAa01a;workAaBbCcDd02a;workAaBb03a;");
        due("workCount", x.workCount(), 3);
        due("authorCount(0)", x.authorCount(0), 1);
        due("authorCount(1)", x.authorCount(1), 4);
        due("authorCount(2)", x.authorCount(2), 2);
        due("authorCount(3)", x.authorCount(3), -1);
        due("authorCount(-1)", x.authorCount(-1), -1);
        due("citationCount", x.citationCount(), 0);
        due("citationSize(0) of none", x.citationSize(0), -1);
        Checks.cite(x, 2, 0, 1);
        Checks.cite(x, 2);
        due("citationCount of two", x.citationCount(), 2);
        due("citationSize(0)", x.citationSize(0), 3);
        due("citationSize(1)", x.citationSize(1), 1);
        due("citationSize(2)", x.citationSize(2), -1);
        due("citationSize(-1)", x.citationSize(-1), -1);
    }

    private static void promise23AuthorKey() {
        CitationFormatter x = Checks.loaded(
                "workBaAa00a;workBa99a;workAzZz00a;workAzZa00a;workAz00a;workBaAa00b;workAaZz00a;");
        dueText("family, initial, next author, then the shorter list", Checks.listing(x), "6432105");
        x.setSortSlot(0, 1, 1);
        dueText("descending, equal ones by number", Checks.listing(x), "0512346");
        due("bibliographyAt(-1)", x.bibliographyAt(-1), -1);
        due("bibliographyAt(7)", x.bibliographyAt(7), -1);
        due("bibliographyAt(greatest)", x.bibliographyAt(Integer.MAX_VALUE), -1);
    }

    private static void promise23AuthorKeyAfterLongerLists() {
        CitationFormatter x = Checks.loaded("workZzZzZzZz00a;workAaAaAaAa00a;workZzZzZzZz00a;");
        Checks.type(x, "workBaBa00a;workBaBaBa00a;workBa00a;");
        x.loadWorks();
        dueText("the shorter list first", Checks.listing(x), "201");
        Checks.type(x, "workBaCa00a;workBa00a;workBaBaBa00a;");
        x.loadWorks();
        dueText("the shorter list first, again", Checks.listing(x), "120");
    }

    private static void promise23YearAndTitleKeys() {
        CitationFormatter x = Checks.loaded("workAa09c;workAa10b;workAa00z;workAa99a;workAa10a;");
        dueText("author, year", Checks.listing(x), "20143");
        x.setSortSlot(2, 3, 0);
        dueText("author, year, title", Checks.listing(x), "20413");
        x.setSortSlot(0, 3, 1);
        dueText("title descending, year", Checks.listing(x), "20143");
        x.setSortSlot(0, 2, 1);
        x.setSortSlot(1, 2, 0);
        dueText("a later slot with the same key adds nothing", Checks.listing(x), "34102");
    }

    private static void promise23NumericListing() {
        CitationFormatter x = Checks.loaded("workDa01a;workCa01a;workBa01a;workAa01a;");
        x.setNumbering(1);
        Checks.cite(x, 1, 3);
        dueText("author-year: bibliography order", Checks.listing(x), "3210");
        x.setStyle(2);
        dueText("note: bibliography order", Checks.listing(x), "3210");
        x.setStyle(1);
        dueText("numeric: by numbers", Checks.listing(x), "1320");
        x.setNumbering(0);
        dueText("numeric, numbered in bibliography order", Checks.listing(x), "3210");
    }

    private static void promise24NumberOf() {
        CitationFormatter x = Checks.loaded("workDa01a;workCa01a;workBa01a;workAa01a;workEa01a;");
        due("numberOf(-1)", x.numberOf(-1), -1);
        due("numberOf(5)", x.numberOf(5), -1);
        dueText("in bibliography order", Checks.numbers(x), "43215");
        x.setNumbering(1);
        dueText("nothing is cited", Checks.numbers(x), "43215");
        Checks.cite(x, 2);
        Checks.cite(x, 4, 2, 1);
        dueText("as first cited, then in bibliography order", Checks.numbers(x), "53142");
        x.setCiteOrder(1);
        dueText("as added, whatever the cite order", Checks.numbers(x), "53142");
        x.setStyle(1);
        dueText("whatever the style", Checks.numbers(x), "53142");
        x.removeCitation(0);
        dueText("after the first citation is gone", Checks.numbers(x), "53241");
        x.setSortSlot(0, 1, 1);
        dueText("the others follow the bibliography order", Checks.numbers(x), "43251");
    }

    private static void promise25InitiallyShown() {
        CitationFormatter x = Checks.loaded("workAa01a;workBaBb01a;workCaCbCc01a;workDaDbDcDd01a;");
        due("shownAuthors(-1)", x.shownAuthors(-1), -1);
        due("shownAuthors(4)", x.shownAuthors(4), -1);
        String[] want = {"1234", "1111", "1111", "1211", "1231", "1234"};
        for (int minimum = 0; minimum <= 5; minimum++) {
            x.setEtAl(minimum, 1);
            dueText("etAlMinimum " + minimum, Checks.shown(x), want[minimum]);
        }
        x.setEtAl(1, 2);
        dueText("two, or all", Checks.shown(x), "1222");
        x.setEtAl(1, 3);
        dueText("three, or all", Checks.shown(x), "1233");
        x.setEtAl(4, 3);
        dueText("three of four", Checks.shown(x), "1233");
    }

    private static void promise25AddNames() {
        CitationFormatter x = Checks.loaded("workKaLaMaNa07a;workKaLaMaOa07b;workKaLaMa07c;"
                + "workKaPaQa07d;workKaLaMaNa08e;");
        // Two names tell work 3 apart, three work 2 (it hides none then), four tell all apart.
        dueText("four names are the best", Checks.shown(x), "44331");
        x.setDisambiguation(0);
        dueText("without the step", Checks.shown(x), "11111");
        x.setDisambiguation(7);
        x.setEtAl(3, 3);
        dueText("three are shown at first", Checks.shown(x), "44333");
    }

    private static void promise25AddNamesChoosesTheSmallest() {
        CitationFormatter x = Checks.loaded("workKaLaMaNa07a;workKaPaMaNa07b;");
        dueText("two names are enough", Checks.shown(x), "22");
        x = Checks.loaded("workKaLaMaNa07a;workKaLbMbNb07b;");
        dueText("no number of names helps, so the least; initials of it do not help", Checks.shown(x),
                "11");
        dueText("suffixes do", Checks.suffixes(x), "ab");
        x = Checks.loaded("workKaLaMa07a;workKaLa07b;");
        x.setEtAl(2, 1);
        dueText("the sign for hidden authors tells them apart", Checks.shown(x), "22");
        x = Checks.loaded("workKaLaMa07a;workKaLaMa07b;workKaPaMa07c;");
        dueText("the most different labels, though two stay alike", Checks.shown(x), "222");
        dueText("the two get suffixes", Checks.suffixes(x), "ab-");
    }

    private static void promise25AddNamesSeesGroupsAlone() {
        CitationFormatter x = Checks.loaded("workKaLaMa07a;workKaPaMa07b;workKaLaMa08c;");
        dueText("another year is not in the group", Checks.shown(x), "221");
        x = Checks.loaded("workKaLaMa07a;workKaPaMa07b;workKaLa07c;");
        x.setEtAl(3, 1);
        // K+07 is a group of two; K&L07 was no member of it, and K&L+07 stays different from it.
        dueText("a whole list is not in the group", Checks.shown(x), "222");
        x = Checks.loaded("workKaLa07a;workKaLaMa07b;workKaPaMa07c;workKaPa07d;");
        x.setEtAl(3, 2);
        dueText("no group, since a hidden author shows", Checks.shown(x), "2222");
        x = Checks.loaded("workKaLaMa07a;workKaLaMa07b;workKaLaMa07c;");
        x.setEtAl(0, 1);
        dueText("no fewer authors than at first", Checks.shown(x), "333");
    }

    private static void promise26AddInitials() {
        CitationFormatter x = Checks.loaded("workKa07a;workKb07b;workKa07c;workKa08d;workLa07e;");
        due("showsInitials(-1)", x.showsInitials(-1), -1);
        due("showsInitials(5)", x.showsInitials(5), -1);
        dueText("all of the group show initials", Checks.shown(x), "1i1i1i11");
        dueText("two of it stay alike", Checks.suffixes(x), "a-b--");
        x.setDisambiguation(5);
        dueText("without the step", Checks.shown(x), "11111");
        dueText("three of it stay alike", Checks.suffixes(x), "acb--");
        x = Checks.loaded("workKa07a;workKa07b;");
        dueText("initials that tell nothing apart are not shown", Checks.shown(x), "11");
    }

    private static void promise26InitialsOfShownAuthorsAlone() {
        CitationFormatter x = Checks.loaded("workKaLaMa07a;workKaLbMa07b;");
        dueText("the initial that differs is hidden", Checks.shown(x), "11");
        x.setEtAl(3, 2);
        dueText("the initial that differs is shown", Checks.shown(x), "2i2i");
        x = Checks.loaded("workKaLaMa07a;workKbLaNa07b;");
        dueText("names come first", Checks.shown(x), "33");
        x.setDisambiguation(6);
        dueText("without names, initials", Checks.shown(x), "1i1i");
    }

    private static void promise27Suffixes() {
        CitationFormatter x = Checks.loaded("workKa07a;workKa07a;workLa07a;workKa07b;workMa07a;"
                + "workMa07b;");
        due("suffixOf(-1)", x.suffixOf(-1), -1);
        due("suffixOf(6)", x.suffixOf(6), -1);
        due("suffixOf(0)", x.suffixOf(0), 'a');
        due("suffixOf(2)", x.suffixOf(2), -9);
        dueText("in each group, from a on", Checks.suffixes(x), "ab-cab");
        x.setSortSlot(2, 3, 1);
        dueText("in bibliography order", Checks.suffixes(x), "bc-aba");
        x.setStyle(1);
        x.setNumbering(1);
        Checks.cite(x, 1, 0);
        dueText("in bibliography order, whatever the numbers", Checks.suffixes(x), "bc-aba");
        x.setDisambiguation(3);
        dueText("without the step", Checks.suffixes(x), "------");
        CitationFormatter eight = Checks.loaded("workKa07a;".repeat(8));
        dueText("eight alike", Checks.suffixes(eight), "abcdefgh");
    }

    private static void promise28AmbiguousWith() {
        CitationFormatter x = Checks.loaded("workKa07a;workLa07a;workKa07b;workKa08a;workKa07c;");
        due("ambiguousWith(-1)", x.ambiguousWith(-1), -1);
        due("ambiguousWith(5)", x.ambiguousWith(5), -1);
        due("with suffixes", x.ambiguousWith(0), 0);
        x.setDisambiguation(3);
        due("ambiguousWith(0)", x.ambiguousWith(0), 20);
        due("ambiguousWith(1)", x.ambiguousWith(1), 0);
        due("ambiguousWith(2)", x.ambiguousWith(2), 17);
        due("ambiguousWith(3)", x.ambiguousWith(3), 0);
        due("ambiguousWith(4)", x.ambiguousWith(4), 5);
        x.setYear(3, 7);
        due("after setYear", x.ambiguousWith(0), 28);
        CitationFormatter names = Checks.loaded("workKaLa07a;workKaMa07a;");
        names.setEtAl(2, 1);
        names.setDisambiguation(0);
        due("hidden names", names.ambiguousWith(0), 2);
        names.setDisambiguation(1);
        due("added names", names.ambiguousWith(0), 0);
    }

    private static void promise28TellsAllLettersApart() {
        CitationFormatter x = Checks.loaded("workKaAa07a;workLaAa07a;workKaZa07a;workZaKa07a;"
                + "workAaKa07a;workZaZa07a;workAaAa07a;workKaKa07a;");
        x.setDisambiguation(0);
        for (int work = 0; work < 8; work++) {
            due("families of work " + work, x.ambiguousWith(work), 0);
        }
        x = Checks.loaded("workKaKa07a;workKaKz07a;workKzKa07a;workKzKz07a;workKaKb07a;"
                + "workKbKa07a;workKaKg07a;workKgKa07a;");
        x.setDisambiguation(0);
        due("initials that are not shown", x.ambiguousWith(7), 127);
        x.setDisambiguation(2);
        for (int work = 0; work < 8; work++) {
            due("initials of work " + work, x.ambiguousWith(work), 0);
        }
    }

    /** Each inspection comes at once behind an edit that changes its answer. */
    private static void eachCallSeesTheLatestEdit() {
        CitationFormatter x = Checks.loaded("workKaLa07a;workKbLa07a;workKbLa08a;");
        x.beginCitation(0);
        due("showsInitials", x.showsInitials(0), 1);
        x.setDisambiguation(4);
        due("showsInitials without step 2", x.showsInitials(0), 0);
        x.setEtAl(2, 1);
        due("shownAuthors", x.shownAuthors(0), 1);
        x.setSortSlot(0, 1, 1);
        due("suffixOf", x.suffixOf(0), 'b');
        x.setDisambiguation(0);
        due("ambiguousWith", x.ambiguousWith(0), 2);
        x.setYear(1, 9);
        due("bibliographyAt", x.bibliographyAt(1), 1);
        x.setYear(1, 7);
        due("numberOf", x.numberOf(1), 1);
        x.setYear(0, 99);
        due("renderedCharacter", x.renderedCharacter(0, 3), '9');
        x.setEtAl(0, 1);
        due("renderedLength", x.renderedLength(0), 7);
        x.setSortSlot(0, 2, 0);
        due("entryCharacter", x.entryCharacter(0, 7), '7');
        x.undo();
        due("entryCharacter after undo", x.entryCharacter(2, 7), '9');
    }
}
