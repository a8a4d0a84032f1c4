/**
 * The bounds of rendered citations, of numbers, of the bibliography's entries and of promises 29 to
 * 31: a test for each sentence of the document that names one.
 */
public final class RenderingBoundsTest {
    private static final int LEAST = Integer.MIN_VALUE;
    private static final int GREATEST = Integer.MAX_VALUE;
    private static final Checks CHECKS = new Checks();

    public static void main(String[] args) {
        labelsAfterTheSteps();
        settingsOfAllCitations();
        citeOrder();
        collapseLevel();
        style();
        authorYear();
        collapsedNames();
        collapsedYears();
        numbersFromOne();
        numberedByBibliography();
        numberedByFirstCitation();
        numeric();
        numericRuns();
        noteNumbers();
        noteJoins();
        firstRuleThatApplies();
        sameWorkAgain();
        citedEarlier();
        citedFirst();
        bibliography();
        entry();
        renderedLength();
        longestLines();
        renderedCharacter();
        entryCharacter();
        all512Calls();
        CHECKS.close("RenderingBoundsTest");
    }

    private static void due(String call, int got, int want) {
        CHECKS.due(call, got, want);
    }

    private static void dueText(String call, String got, String want) {
        CHECKS.dueText(call, got, want);
    }

    private static void dueRendered(CitationFormatter x, int citation, String want) {
        dueText("citation " + citation, Checks.rendered(x, citation), want);
        due("length of " + want, x.renderedLength(citation), want.length());
        due("behind the end of " + want, x.renderedCharacter(citation, want.length()), -9);
    }

    private static void dueEntry(CitationFormatter x, int position, String want) {
        dueText("entry " + position, Checks.entry(x, position), want);
        due("behind the end of " + want, x.entryCharacter(position, want.length()), -9);
    }

    /** Works A01a, B02b and so on. */
    private static CitationFormatter works(int count) {
        StringBuilder text = new StringBuilder();
        for (int work = 0; work < count; work++) {
            text.append("work").append((char) ('A' + work)).append("a0").append(work + 1);
            text.append((char) ('a' + work)).append(';');
        }
        return Checks.loaded(text.toString());
    }

    private static void labelsAfterTheSteps() {
        CHECKS.sentence("The labels in the rest of this document are those after the enabled steps.");
        CitationFormatter x = Checks.loaded("workKaLaMa07a;workKaPaMa07a;workQa07a;workQb07a;"
                + "workQb07b;");
        Checks.cite(x, 0, 1, 2, 3, 4);
        String[] want = {"(K+07;K+07;Q07;Q07;Q07)", "(K&L+07;K&P+07;Q07;Q07;Q07)",
            "(K+07;K+07;Qa07;Qb07;Qb07)", "(K&L+07;K&P+07;Qa07;Qb07;Qb07)",
            "(K+07a;K+07b;Q07a;Q07b;Q07c)", "(K&L+07;K&P+07;Q07a;Q07b;Q07c)",
            "(K+07a;K+07b;Qa07;Qb07a;Qb07b)", "(K&L+07;K&P+07;Qa07;Qb07a;Qb07b)"};
        for (int steps = 0; steps <= 7; steps++) {
            x.setDisambiguation(steps);
            dueRendered(x, 0, want[steps]);
        }
    }

    private static void settingsOfAllCitations() {
        CHECKS.sentence("Two settings hold for all citations.");
        CitationFormatter x = Checks.loaded("workKa07a;workKa07b;");
        for (int citation = 0; citation < 10; citation++) {
            Checks.cite(x, 1, 0);
        }
        x.setCiteOrder(1);
        x.setCollapseLevel(2);
        for (int citation = 0; citation < 10; citation++) {
            dueRendered(x, citation, "(K07a,b)");
        }
    }

    private static void citeOrder() {
        CHECKS.sentence("Cite order (0 or 1, initially 0): with 0 the works of a citation are "
                + "rendered in the order in which they were added; with 1 they are rendered in "
                + "bibliography order, and in the numeric style by ascending numbers.");
        CitationFormatter x = works(8);
        x.setNumbering(1);
        Checks.cite(x, 7);
        Checks.cite(x, 4, 7, 0, 3, 1);
        dueRendered(x, 1, "(E05;H08;A01;D04;B02)");
        due("initially 0", x.setCiteOrder(1), 0);
        dueRendered(x, 0, "(H08)");
        dueRendered(x, 1, "(A01;B02;D04;E05;H08)");
        x.setSortSlot(0, 1, 1);
        dueRendered(x, 1, "(H08;E05;D04;B02;A01)");
        x.setStyle(1);
        dueRendered(x, 1, "[1,2,3,4,5]");
        x.setCiteOrder(0);
        dueRendered(x, 1, "[2,1,3,4,5]");
        x.setStyle(2);
        dueRendered(x, 1, "Eae05;Hn1;Aaa01;Dad04;Bab02.");
        x.setCiteOrder(1);
        dueRendered(x, 1, "i;Eae05;Dad04;Bab02;Aaa01.");
        due("no third order", x.setCiteOrder(2), -1);
    }

    private static void collapseLevel() {
        CHECKS.sentence("Collapse level (0 to 2, initially 0) is explained below.");
        CitationFormatter x = Checks.loaded("workKa07a;workKa07b;workKa07c;");
        Checks.cite(x, 0, 1, 2);
        dueRendered(x, 0, "(K07a;K07b;K07c)");
        due("initially 0", x.setCollapseLevel(1), 0);
        dueRendered(x, 0, "(K07a,07b,07c)");
        due("level 2", x.setCollapseLevel(2), 1);
        dueRendered(x, 0, "(K07a,b,c)");
        due("no level 3", x.setCollapseLevel(3), -1);
        due("no level -1", x.setCollapseLevel(-1), -1);
        dueRendered(x, 0, "(K07a,b,c)");
        x.setStyle(1);
        dueRendered(x, 0, "[1-3]");
        x.setCollapseLevel(1);
        dueRendered(x, 0, "[1-3]");
        x.setCollapseLevel(0);
        dueRendered(x, 0, "[1,2,3]");
    }

    private static void style() {
        CHECKS.sentence("The style is 0 (author-year, initially), 1 (numeric) or 2 (note).");
        CitationFormatter x = works(1);
        x.beginCitation(0);
        dueRendered(x, 0, "(A01)");
        due("initially 0", x.setStyle(1), 0);
        dueRendered(x, 0, "[1]");
        due("then 1", x.setStyle(2), 1);
        dueRendered(x, 0, "Aaa01.");
        due("no style 3", x.setStyle(3), -1);
        due("no style -1", x.setStyle(-1), -1);
        dueRendered(x, 0, "Aaa01.");
        due("then 2", x.setStyle(0), 2);
    }

    private static void authorYear() {
        CHECKS.sentence("A citation is rendered as the labels of its works, joined by the character "
                + "; and enclosed in ( and ).");
        CitationFormatter x = works(8);
        x.beginCitation(7);
        String line = "(H08)";
        dueRendered(x, 0, line);
        for (int work = 6; work >= 3; work--) {
            x.addToCitation(work);
            line = line.replace(")", ";" + (char) ('A' + work) + "0" + (work + 1) + ")");
            dueRendered(x, 0, line);
        }
        x.addToCitation(0);
        dueRendered(x, 0, "(H08;G07;F06;E05;D04)");
    }

    private static void collapsedNames() {
        CHECKS.sentence("At collapse level 1 and 2, a work whose names part equals the names part of "
                + "the work rendered before it in the same citation is rendered as year and suffix "
                + "alone, and it is joined to the work before it by a comma instead of a "
                + "semicolon.");
        CitationFormatter x = Checks.loaded("workKa00a;workKa09a;workLa10a;workKa10a;workKaLa10a;"
                + "workKa11a;workKb11a;");
        for (int level = 1; level <= 2; level++) {
            x.setCollapseLevel(level);
            Checks.cite(x, 0);
            Checks.cite(x, 1, 0, 3);
            Checks.cite(x, 0, 2, 1);
            Checks.cite(x, 3, 4, 1);
            Checks.cite(x, 5, 6, 0, 1);
            // The first work stands in full, whatever the citation before cites.
            dueRendered(x, 0, "(K00)");
            dueRendered(x, 1, "(K09,00,10)");
            dueRendered(x, 2, "(K00;L10;K09)");
            dueRendered(x, 3, "(K10;K&L10;K09)");
            dueRendered(x, 4, "(Ka11;Kb11;K00,09)");
            for (int citation = 0; citation < 5; citation++) {
                x.removeCitation(0);
            }
        }
        x = Checks.loaded("workAa07a;workAa08a;workAb08a;workZz07a;workZz08a;workZa08a;");
        x.setCollapseLevel(1);
        // Names with initials are not the names without them.
        Checks.cite(x, 0, 1, 3, 4);
        dueRendered(x, 0, "(A07;Aa08;Z07;Zz08)");
        x = Checks.loaded("workKaLaMa07a;workKaLaMa08a;workKaPa08a;workKaPaQa07a;");
        x.setCollapseLevel(1);
        Checks.cite(x, 1, 0, 3, 2);
        // Work 1 shows one name and hides two, the works 0 and 3 show two and hide one.
        dueRendered(x, 0, "(K+08;K&L+07;K&P+07;K&P08)");
    }

    private static void collapsedYears() {
        CHECKS.sentence("At collapse level 2, such a work is rendered as its suffix alone if it has "
                + "a suffix and its year equals the year of the work before it.");
        CitationFormatter x = Checks.loaded("workKa07a;workKa07b;workKa07c;workKa08a;workKa08b;"
                + "workKa09a;workLa07a;workLa07b;");
        x.setCollapseLevel(2);
        Checks.cite(x, 0, 1, 2, 3, 4);
        Checks.cite(x, 0, 3, 1, 4, 2);
        Checks.cite(x, 2, 5, 3, 4, 0);
        Checks.cite(x, 1, 6, 0, 2, 7);
        dueRendered(x, 0, "(K07a,b,c,08a,b)");
        dueRendered(x, 1, "(K07a,08a,07b,08b,07c)");
        dueRendered(x, 2, "(K07c,09,08a,b,07a)");
        dueRendered(x, 3, "(K07b;L07a;K07a,c;L07b)");
        x.setDisambiguation(3);
        dueRendered(x, 0, "(K07,07,07,08,08)");
        x.setDisambiguation(7);
        x.setCollapseLevel(1);
        dueRendered(x, 0, "(K07a,07b,07c,08a,08b)");
    }

    private static void numbersFromOne() {
        CHECKS.sentence("Each work has a number from 1 on.");
        for (int works = 1; works <= 8; works++) {
            CitationFormatter x = works(works);
            for (int numbering = 0; numbering <= 1; numbering++) {
                x.setNumbering(numbering);
                dueText("numbers", Checks.numbers(x), "12345678".substring(0, works));
            }
        }
    }

    private static void numberedByBibliography() {
        CHECKS.sentence("Numbering 0 (initially): the works are numbered in bibliography order.");
        CitationFormatter x = works(8);
        x.beginCitation(7);
        dueText("ascending", Checks.numbers(x), "12345678");
        x.setSortSlot(0, 2, 1);
        dueText("descending", Checks.numbers(x), "87654321");
        due("initially 0", x.setNumbering(0), 0);
        x.removeWork(7);
        dueText("without the first of it", Checks.numbers(x), "7654321");
    }

    private static void numberedByFirstCitation() {
        CHECKS.sentence("Numbering 1: the works are numbered in the order in which they are first "
                + "cited (citation by citation, and within a citation in the order in which they "
                + "were added); the works that are not cited follow in bibliography order.");
        CitationFormatter x = works(8);
        x.setNumbering(1);
        dueText("none is cited", Checks.numbers(x), "12345678");
        Checks.cite(x, 7);
        dueText("one is cited", Checks.numbers(x), "23456781");
        Checks.cite(x, 5, 7, 3);
        dueText("cited twice, numbered once", Checks.numbers(x), "45637281");
        x.setSortSlot(0, 1, 1);
        dueText("the others the other way round", Checks.numbers(x), "87635241");
        Checks.cite(x, 0, 1, 2, 4, 6);
        dueText("all are cited", Checks.numbers(x), "45637281");
        x.setCiteOrder(1);
        dueText("as added, though rendered in order", Checks.numbers(x), "45637281");
        x.removeCitation(0);
        dueText("the first citation is gone", Checks.numbers(x), "45637182");
        CitationFormatter last = works(8);
        last.setNumbering(1);
        for (int citation = 0; citation < 9; citation++) {
            last.beginCitation(0);
        }
        last.beginCitation(7);
        dueText("first cited by the tenth citation", Checks.numbers(last), "13456782");
    }

    private static void numeric() {
        CHECKS.sentence("A citation is rendered as the numbers of its works, joined by commas and "
                + "enclosed in [ and ].");
        CitationFormatter x = works(8);
        x.setStyle(1);
        Checks.cite(x, 0);
        Checks.cite(x, 7);
        Checks.cite(x, 7, 0);
        Checks.cite(x, 0, 1, 2, 3, 4);
        Checks.cite(x, 7, 6, 5, 4, 3);
        dueRendered(x, 0, "[1]");
        dueRendered(x, 1, "[8]");
        dueRendered(x, 2, "[8,1]");
        dueRendered(x, 3, "[1,2,3,4,5]");
        dueRendered(x, 4, "[8,7,6,5,4]");
    }

    private static void numericRuns() {
        CHECKS.sentence("At collapse level 1 and 2, each maximal run of works, in the order of "
                + "rendering, in which each number is one more than the number before it, is "
                + "rendered as its first number, a hyphen (-) and its last number, if the run has at "
                + "least three works.");
        CitationFormatter x = works(8);
        x.setStyle(1);
        int[][] cited = {{3}, {3, 4}, {3, 4, 5}, {3, 4, 5, 6}, {3, 4, 5, 6, 7}, {5, 4, 3},
            {0, 2, 4}, {0, 1, 4, 5, 6}, {0, 1, 2, 6, 7}, {6, 7, 0, 1, 2}};
        String[] runs = {"[4]", "[4,5]", "[4-6]", "[4-7]", "[4-8]", "[6,5,4]", "[1,3,5]",
            "[1,2,5-7]", "[1-3,7,8]", "[7,8,1-3]"};
        for (int[] works : cited) {
            Checks.cite(x, works);
        }
        for (int level = 1; level <= 2; level++) {
            x.setCollapseLevel(level);
            for (int citation = 0; citation < 10; citation++) {
                dueRendered(x, citation, runs[citation]);
            }
        }
        x.setCiteOrder(1);
        dueRendered(x, 5, "[4-6]");
        dueRendered(x, 9, "[1-3,7,8]");
        x.setCiteOrder(0);
        x.setCollapseLevel(0);
        dueRendered(x, 4, "[4,5,6,7,8]");
        CitationFormatter two = works(8);
        two.setStyle(1);
        two.setCollapseLevel(1);
        Checks.cite(two, 0, 1, 3, 4, 5);
        Checks.cite(two, 2, 3, 4, 1, 0);
        Checks.cite(two, 0, 2, 3, 4, 6);
        Checks.cite(two, 2, 1, 3, 4, 5);
        dueRendered(two, 0, "[1,2,4-6]");
        dueRendered(two, 1, "[3-5,2,1]");
        dueRendered(two, 2, "[1,3-5,7]");
        dueRendered(two, 3, "[3,2,4-6]");
    }

    private static void noteNumbers() {
        CHECKS.sentence("Citation c is note number c + 1.");
        CitationFormatter x = works(8);
        x.setStyle(2);
        for (int work = 0; work < 8; work++) {
            x.beginCitation(work);
        }
        Checks.cite(x, 0, 7);
        Checks.cite(x, 6, 1, 0, 7);
        dueRendered(x, 0, "Aaa01.");
        dueRendered(x, 8, "An1;Hn8.");
        dueRendered(x, 9, "Gn7;Bn2;An1;Hn8.");
        CitationFormatter nine = works(2);
        nine.setStyle(2);
        for (int citation = 0; citation < 8; citation++) {
            nine.beginCitation(0);
        }
        Checks.cite(nine, 1, 0);
        Checks.cite(nine, 0, 1);
        dueRendered(nine, 9, "An1;Bn9.");
    }

    private static void noteJoins() {
        CHECKS.sentence("Its works are rendered one after the other, joined by the character ; and "
                + "followed by a full stop.");
        CitationFormatter x = works(5);
        x.setStyle(2);
        Checks.cite(x, 4);
        Checks.cite(x, 4, 3, 2, 1, 0);
        dueRendered(x, 0, "Eae05.");
        dueRendered(x, 1, "i;Dad04;Cac03;Bab02;Aaa01.");
    }

    private static void firstRuleThatApplies() {
        CHECKS.sentence("A work is rendered by the first of these rules that applies:");
        CitationFormatter x = works(2);
        x.setStyle(2);
        Checks.cite(x, 0);
        Checks.cite(x, 0, 1);
        Checks.cite(x, 1);
        Checks.cite(x, 1);
        // Rule 1 and rule 2 apply to work 0 in note 2, and to work 1 in note 4.
        dueRendered(x, 1, "i;Bab02.");
        dueRendered(x, 2, "Bn2.");
        dueRendered(x, 3, "i.");
    }

    private static void sameWorkAgain() {
        CHECKS.sentence("If it is the first work that is rendered in the note, the note is not the "
                + "first note, the citation before it cites exactly one work, and this is the same "
                + "work: the letter i.");
        CitationFormatter x = works(3);
        x.setStyle(2);
        Checks.cite(x, 0);
        Checks.cite(x, 0);
        Checks.cite(x, 0, 1);
        Checks.cite(x, 0);
        Checks.cite(x, 1, 0);
        Checks.cite(x, 1);
        Checks.cite(x, 0);
        dueRendered(x, 0, "Aaa01.");
        dueRendered(x, 1, "i.");
        dueRendered(x, 2, "i;Bab02.");
        // The note before cites two works.
        dueRendered(x, 3, "An1.");
        // The same work, but not the first one that is rendered.
        dueRendered(x, 4, "Bn3;An1.");
        dueRendered(x, 5, "Bn3.");
        // The note before cites one work, but another one.
        dueRendered(x, 6, "An1.");
        x.setCiteOrder(1);
        dueRendered(x, 4, "i;Bn3.");
        x.removeCitation(0);
        dueRendered(x, 0, "Aaa01.");
        dueRendered(x, 1, "i;Bab02.");
        x.removeWork(1);
        // All notes that are left cite work 0 alone.
        for (int citation = 1; citation < x.citationCount(); citation++) {
            dueRendered(x, citation, "i.");
        }
        due("five are left", x.citationCount(), 5);
    }

    private static void citedEarlier() {
        CHECKS.sentence("If an earlier citation cites the work: the names part of its label, the "
                + "letter n, and the note number of the earliest citation that cites it.");
        CitationFormatter x = Checks.loaded("workKaLaMa07a;workKaPaMa07b;workQa07a;workQa07b;"
                + "workRa07a;workRb07a;");
        x.setStyle(2);
        Checks.cite(x, 5, 4, 3, 2, 1);
        Checks.cite(x, 1, 0);
        Checks.cite(x, 0, 1, 2, 4, 5);
        Checks.cite(x, 0, 3);
        dueRendered(x, 0, "Rba07;Raa07;Qab07;Qaa07;Ka&Pa&Mab07.");
        dueRendered(x, 1, "K&P+n1;Ka&La&Maa07.");
        // No suffix: it is no part of the names.
        dueRendered(x, 2, "K&L+n2;K&P+n1;Qn1;Ran1;Rbn1.");
        dueRendered(x, 3, "K&L+n2;Qn1.");
        x.removeCitation(1);
        dueRendered(x, 1, "Ka&La&Maa07;K&P+n1;Qn1;Ran1;Rbn1.");
        dueRendered(x, 2, "K&L+n2;Qn1.");
    }

    private static void citedFirst() {
        CHECKS.sentence("Otherwise: all its authors with initials, joined by &, then the title, then "
                + "the year in two digits.");
        CitationFormatter x = Checks.loaded("workKaLbMcNd00z;workKa09a;workKa99a;workKa99b;");
        x.setStyle(2);
        Checks.cite(x, 0, 1, 2, 3);
        dueRendered(x, 0, "Ka&Lb&Mc&Ndz00;Kaa09;Kaa99;Kab99.");
        Checks.cite(x, 1);
        x.removeCitation(0);
        // A later citation does not count.
        Checks.cite(x, 2);
        Checks.cite(x, 2);
        dueRendered(x, 0, "Kaa09.");
        dueRendered(x, 1, "Kaa99.");
    }

    private static void bibliography() {
        CHECKS.sentence("The bibliography lists all works, in the numeric style by ascending "
                + "numbers, otherwise in bibliography order.");
        CitationFormatter x = works(8);
        x.setNumbering(1);
        Checks.cite(x, 7, 3);
        for (int style : new int[] {0, 2}) {
            x.setStyle(style);
            dueText("bibliography order", Checks.listing(x), "01234567");
        }
        x.setStyle(1);
        dueText("by numbers", Checks.listing(x), "73012456");
        dueEntry(x, 0, "[1]Ha(08)h.");
        dueEntry(x, 7, "[8]Ga(07)g.");
        due("no ninth entry", x.bibliographyAt(8), -1);
    }

    private static void entry() {
        CHECKS.sentence("An entry consists of: in the numeric style only, the number enclosed in [ "
                + "and ]; all authors with initials, joined by &; the year in two digits enclosed in "
                + "( and ), in the author-year style followed by the suffix inside the parentheses; "
                + "the title; a full stop.");
        CitationFormatter x = Checks.loaded("workKa00a;workLaMbNcOd99z;workPa09b;workPa09c;");
        dueEntry(x, 0, "Ka(00)a.");
        dueEntry(x, 1, "La&Mb&Nc&Od(99)z.");
        dueEntry(x, 2, "Pa(09a)b.");
        dueEntry(x, 3, "Pa(09b)c.");
        x.setStyle(1);
        dueEntry(x, 0, "[1]Ka(00)a.");
        dueEntry(x, 1, "[2]La&Mb&Nc&Od(99)z.");
        dueEntry(x, 3, "[4]Pa(09)c.");
        x.setStyle(2);
        dueEntry(x, 0, "Ka(00)a.");
        dueEntry(x, 3, "Pa(09)c.");
        x.setStyle(0);
        x.setDisambiguation(3);
        dueEntry(x, 3, "Pa(09)c.");
    }

    private static void renderedLength() {
        CHECKS.sentence("Returns the length of the rendered citation; INVALID_ARGUMENT if there is "
                + "no such citation.");
        CitationFormatter x = works(1);
        for (int citations = 0; citations <= 10; citations++) {
            for (int outside : new int[] {LEAST, -1, citations, citations + 1, GREATEST}) {
                due("of " + outside, x.renderedLength(outside), -1);
            }
            for (int citation = 0; citation < citations; citation++) {
                due("of " + citation, x.renderedLength(citation), 5);
            }
            x.beginCitation(0);
        }
        x.setStyle(1);
        due("numeric", x.renderedLength(9), 3);
        x.setStyle(2);
        due("the shortest one", x.renderedLength(9), 2);
        due("the first note", x.renderedLength(0), 6);
        CitationFormatter edited = Checks.loaded("workKaLb07a;");
        edited.beginCitation(0);
        due("before an edit", edited.renderedLength(0), 7);
        edited.setEtAl(1, 1);
        due("at once behind an edit", edited.renderedLength(0), 6);
        edited.undo();
        due("at once behind an undo", edited.renderedLength(0), 7);
    }

    private static void longestLines() {
        CHECKS.sentence("Returns the length of the rendered citation; INVALID_ARGUMENT if there is "
                + "no such citation.");
        String text = "workAaBaCaDa10a;workAaBaCaDa10b;workAaBaCaDa10c;workAbBaCaDa10d;"
                + "workAbBaCaDa10e;";
        CitationFormatter x = Checks.loaded(text);
        x.setEtAl(0, 1);
        Checks.cite(x, 0, 1, 2, 3, 4);
        dueRendered(x, 0, "(Aa&Ba&Ca&Da10a;Aa&Ba&Ca&Da10b;Aa&Ba&Ca&Da10c;Ab&Ba&Ca&Da10a;"
                + "Ab&Ba&Ca&Da10b)");
        x.setStyle(2);
        dueRendered(x, 0, "Aa&Ba&Ca&Daa10;Aa&Ba&Ca&Dab10;Aa&Ba&Ca&Dac10;Ab&Ba&Ca&Dad10;"
                + "Ab&Ba&Ca&Dae10.");
        due("75 characters", x.renderedLength(0), 75);
        x.setStyle(0);
        due("76 characters", x.renderedLength(0), 76);
        x.setStyle(1);
        dueEntry(x, 4, "[5]Ab&Ba&Ca&Da(10)e.");
    }

    private static void renderedCharacter() {
        CHECKS.sentence("Returns the code of this character of the rendered citation; "
                + "INVALID_ARGUMENT if there is no such citation or the index is negative; NONE if "
                + "the rendered citation has no such character.");
        CitationFormatter x = works(2);
        int[] indices = {LEAST, -1, 0, 4, 5, 75, 100, GREATEST};
        for (int index : indices) {
            due("no citation, index " + index, x.renderedCharacter(0, index), -1);
        }
        x.beginCitation(0);
        x.beginCitation(1);
        for (int citation : new int[] {LEAST, -1, 2, 9, 10, GREATEST}) {
            for (int index : indices) {
                due("citation " + citation + ", index " + index,
                        x.renderedCharacter(citation, index), -1);
            }
        }
        for (int citation = 0; citation < 2; citation++) {
            due("least index", x.renderedCharacter(citation, LEAST), -1);
            due("index -1", x.renderedCharacter(citation, -1), -1);
            String line = citation == 0 ? "(A01)" : "(B02)";
            for (int index = 0; index < 5; index++) {
                due("index " + index, x.renderedCharacter(citation, index), line.charAt(index));
            }
            for (int index : new int[] {5, 6, 75, 99, 100, 101, 1000, GREATEST}) {
                due("index " + index, x.renderedCharacter(citation, index), -9);
            }
        }
        // What a longer line has written before does not come up behind a shorter one.
        x.addToCitation(0);
        due("the longer line", x.renderedCharacter(1, 8), ')');
        due("the shorter line", x.renderedCharacter(0, 8), -9);
    }

    private static void entryCharacter() {
        CHECKS.sentence("Returns the code of this character of the bibliography entry at the "
                + "position; INVALID_ARGUMENT if there is no such position or the index is negative; "
                + "NONE if the entry has no such character.");
        int[] indices = {LEAST, -1, 0, 7, 8, 100, GREATEST};
        for (int works = 0; works <= 8; works++) {
            CitationFormatter x = works(works);
            for (int position : new int[] {LEAST, -1, works, works + 1, GREATEST}) {
                for (int index : indices) {
                    due("position " + position + " of " + works + ", index " + index,
                            x.entryCharacter(position, index), -1);
                }
            }
            for (int position = 0; position < works; position++) {
                due("least index", x.entryCharacter(position, LEAST), -1);
                due("index -1", x.entryCharacter(position, -1), -1);
                due("index 0", x.entryCharacter(position, 0), 'A' + position);
                due("index 7", x.entryCharacter(position, 7), '.');
                for (int index : new int[] {8, 9, 99, 100, 101, GREATEST}) {
                    due("index " + index, x.entryCharacter(position, index), -9);
                }
            }
        }
    }

    private static void all512Calls() {
        CHECKS.sentence("An object is used for at most 512 calls after it has been made; what later "
                + "calls answer is free.");
        CitationFormatter x = new CitationFormatter();
        Checks.type(x, "workKa07a;workKa07b;workKa07c;");
        x.loadWorks();
        for (int call = 32; call < 500; call += 4) {
            due("a new citation", x.beginCitation(2), 0);
            due("another work in it", x.addToCitation(call / 4 % 2), 2);
            due("its length", x.renderedLength(0), 11);
            due("it goes", x.removeCitation(0), 2);
        }
        due("call 500", x.beginCitation(0), 0);
        for (int index = 0; index < 6; index++) {
            due("calls 501 to 506", x.renderedCharacter(0, index), "(K07a)".charAt(index));
        }
        due("call 507", x.renderedCharacter(0, 6), -9);
        due("call 508", x.undo(), 7);
        due("call 509", x.citationCount(), 0);
        due("call 510", x.undo(), 6);
        due("call 511", x.citationSize(0), 2);
        due("call 512", x.workCount(), 3);
    }
}
