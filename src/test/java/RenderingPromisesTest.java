/** Promises 29 to 31: rendered citations in the three styles, and the bibliography's entries. */
public final class RenderingPromisesTest {
    private static final Checks CHECKS = new Checks();

    public static void main(String[] args) {
        promises29And30Arguments();
        promise30Labels();
        promise30Collapsing();
        promise30CollapsingLooksAtTheWorkBefore();
        promise30CiteOrder();
        promise30Numeric();
        promise30NumericRuns();
        promise30Notes();
        promise30NotesInOrder();
        promise29Longest();
        promise31Entries();
        promise31Arguments();
        CHECKS.close("RenderingPromisesTest");
    }

    private static void due(String call, int got, int want) {
        CHECKS.due(call, got, want);
    }

    private static void dueText(String call, String got, String want) {
        CHECKS.dueText(call, got, want);
    }

    private static void dueRendered(CitationFormatter x, int citation, String want) {
        dueText("citation " + citation, Checks.rendered(x, citation), want);
        due("length of " + want, x.renderedLength(citation), want.length());
    }

    private static void promises29And30Arguments() {
        CitationFormatter x = Checks.loaded("workKa07a;");
        due("no citation", x.renderedLength(0), -1);
        due("no citation", x.renderedCharacter(0, 0), -1);
        x.beginCitation(0);
        due("renderedLength(-1)", x.renderedLength(-1), -1);
        due("renderedLength(1)", x.renderedLength(1), -1);
        due("renderedLength(0)", x.renderedLength(0), 5);
        due("renderedCharacter(-1, 0)", x.renderedCharacter(-1, 0), -1);
        due("renderedCharacter(1, 0)", x.renderedCharacter(1, 0), -1);
        due("renderedCharacter(1, 99)", x.renderedCharacter(1, 99), -1);
        due("renderedCharacter(0, -1)", x.renderedCharacter(0, -1), -1);
        due("renderedCharacter(0, least)", x.renderedCharacter(0, Integer.MIN_VALUE), -1);
        due("renderedCharacter(0, 0)", x.renderedCharacter(0, 0), '(');
        due("renderedCharacter(0, 4)", x.renderedCharacter(0, 4), ')');
        due("renderedCharacter(0, 5)", x.renderedCharacter(0, 5), -9);
        due("renderedCharacter(0, greatest)", x.renderedCharacter(0, Integer.MAX_VALUE), -9);
    }

    private static void promise30Labels() {
        CitationFormatter x = Checks.loaded(
                "workKaLb00a;workMaNbOc09b;workPa10c;workPb10d;workPa10e;");
        Checks.cite(x, 0, 1, 2, 3, 4);
        dueRendered(x, 0, "(K&L00;M+09;Pa10a;Pb10;Pa10b)");
        x.setEtAl(3, 2);
        dueRendered(x, 0, "(K&L00;M&N+09;Pa10a;Pb10;Pa10b)");
        x.setEtAl(0, 2);
        x.setDisambiguation(4);
        dueRendered(x, 0, "(K&L00;M&N&O09;P10a;P10c;P10b)");
    }

    private static void promise30Collapsing() {
        CitationFormatter x = Checks.loaded("workKa07a;workKa07b;workKa08c;workKaLb07d;workKa09e;");
        Checks.cite(x, 1, 0, 2, 3, 4);
        dueRendered(x, 0, "(K07b;K07a;K08;K&L07;K09)");
        x.setCollapseLevel(1);
        dueRendered(x, 0, "(K07b,07a,08;K&L07;K09)");
        x.setCollapseLevel(2);
        dueRendered(x, 0, "(K07b,a,08;K&L07;K09)");
        x.setDisambiguation(3);
        dueRendered(x, 0, "(K07,07,08;K&L07;K09)");
        Checks.cite(x, 3);
        dueRendered(x, 1, "(K&L07)");
    }

    private static void promise30CollapsingLooksAtTheWorkBefore() {
        CitationFormatter x = Checks.loaded("workKa07a;workKa08a;workKa07b;workKa08b;workKaLa09a;");
        x.setCollapseLevel(2);
        Checks.cite(x, 0, 1, 2, 3);
        dueRendered(x, 0, "(K07a,08a,07b,08b)");
        x.setCiteOrder(1);
        dueRendered(x, 0, "(K07a,b,08a,b)");
        x.setCiteOrder(0);
        Checks.cite(x, 0, 4, 2);
        dueRendered(x, 1, "(K07a;K&L09;K07b)");
        x = Checks.loaded("workKa07a;workKb07a;workKa08a;workKa07b;");
        x.setCollapseLevel(2);
        Checks.cite(x, 0, 3, 2, 1);
        dueRendered(x, 0, "(Ka07a,b;K08;Kb07)");
        x = Checks.loaded("workKaLa07a;workKaLaMa08a;");
        x.setEtAl(3, 2);
        x.setCollapseLevel(1);
        Checks.cite(x, 0, 1);
        dueRendered(x, 0, "(K&L07;K&L+08)");
    }

    private static void promise30CiteOrder() {
        CitationFormatter x = Checks.loaded("workDa01a;workCa02a;workBa03a;workAa04a;");
        Checks.cite(x, 1, 3, 0);
        x.setCiteOrder(1);
        dueRendered(x, 0, "(A04;C02;D01)");
        x.setSortSlot(0, 2, 0);
        dueRendered(x, 0, "(D01;C02;A04)");
        x.setNumbering(1);
        dueRendered(x, 0, "(D01;C02;A04)");
        x.setStyle(1);
        dueRendered(x, 0, "[1,2,3]");
        x.setNumbering(0);
        dueRendered(x, 0, "[1,2,4]");
        x.setStyle(2);
        dueRendered(x, 0, "Daa01;Caa02;Aaa04.");
    }

    private static CitationFormatter eightWorks() {
        return Checks.loaded(
                "workAa01a;workBa01a;workCa01a;workDa01a;workEa01a;workFa01a;workGa01a;workHa01a;");
    }

    private static void promise30Numeric() {
        CitationFormatter x = eightWorks();
        x.setStyle(1);
        Checks.cite(x, 7);
        Checks.cite(x, 3, 0, 6);
        Checks.cite(x, 0, 1, 2);
        dueRendered(x, 0, "[8]");
        dueRendered(x, 1, "[4,1,7]");
        dueRendered(x, 2, "[1,2,3]");
        x.setNumbering(1);
        dueRendered(x, 0, "[1]");
        dueRendered(x, 1, "[2,3,4]");
        dueRendered(x, 2, "[3,5,6]");
    }

    private static void promise30NumericRuns() {
        CitationFormatter x = eightWorks();
        x.setStyle(1);
        x.setCollapseLevel(1);
        Checks.cite(x, 0, 1, 2);
        Checks.cite(x, 0, 1, 3, 4, 7);
        Checks.cite(x, 5, 0, 1, 2, 3);
        Checks.cite(x, 2, 1, 0);
        Checks.cite(x, 3, 4, 5, 6, 0);
        Checks.cite(x, 0, 1, 5, 6, 7);
        Checks.cite(x, 6, 5, 4, 0, 1);
        dueRendered(x, 0, "[1-3]");
        dueRendered(x, 1, "[1,2,4,5,8]");
        dueRendered(x, 2, "[6,1-4]");
        dueRendered(x, 3, "[3,2,1]");
        dueRendered(x, 4, "[4-7,1]");
        dueRendered(x, 5, "[1,2,6-8]");
        dueRendered(x, 6, "[7,6,5,1,2]");
        x.setCiteOrder(1);
        dueRendered(x, 3, "[1-3]");
        dueRendered(x, 4, "[1,4-7]");
        dueRendered(x, 6, "[1,2,5-7]");
        x.setCollapseLevel(2);
        dueRendered(x, 5, "[1,2,6-8]");
        x.setCollapseLevel(0);
        dueRendered(x, 5, "[1,2,6,7,8]");
    }

    private static void promise30Notes() {
        CitationFormatter x = Checks.loaded("workKaLaMa11a;workNb02b;workKaPaQa11c;");
        x.setStyle(2);
        Checks.cite(x, 0);
        Checks.cite(x, 0);
        Checks.cite(x, 0);
        Checks.cite(x, 1, 0);
        Checks.cite(x, 1);
        Checks.cite(x, 0, 1);
        Checks.cite(x, 0, 2);
        Checks.cite(x, 2);
        Checks.cite(x, 1, 2);
        dueRendered(x, 0, "Ka&La&Maa11.");
        dueRendered(x, 1, "i.");
        dueRendered(x, 2, "i.");
        dueRendered(x, 3, "Nbb02;K&L+n1.");
        dueRendered(x, 4, "Nn4.");
        dueRendered(x, 5, "K&L+n1;Nn4.");
        dueRendered(x, 6, "K&L+n1;Ka&Pa&Qac11.");
        dueRendered(x, 7, "K&P+n7.");
        dueRendered(x, 8, "Nn4;K&P+n7.");
        x.setCollapseLevel(2);
        dueRendered(x, 8, "Nn4;K&P+n7.");
        x.removeCitation(0);
        dueRendered(x, 0, "Ka&La&Maa11.");
        dueRendered(x, 3, "Nn3.");
    }

    private static void promise30NotesInOrder() {
        CitationFormatter x = Checks.loaded("workBa01a;workAa02b;workBb01c;");
        x.setStyle(2);
        Checks.cite(x, 1);
        Checks.cite(x, 0, 1);
        Checks.cite(x, 0);
        Checks.cite(x, 2, 0);
        dueRendered(x, 1, "Baa01;An1.");
        dueRendered(x, 3, "Bbc01;Ban2.");
        x.setCiteOrder(1);
        dueRendered(x, 1, "i;Baa01.");
        dueRendered(x, 3, "i;Bbc01.");
        CitationFormatter ten = Checks.loaded("workBa01a;workAa02b;");
        ten.setStyle(2);
        for (int citation = 0; citation < 8; citation++) {
            ten.beginCitation(0);
        }
        Checks.cite(ten, 0, 1);
        Checks.cite(ten, 1);
        dueRendered(ten, 8, "i;Aab02.");
        dueRendered(ten, 9, "An9.");
        ten.addToCitation(0);
        dueRendered(ten, 9, "An9;Bn1.");
    }

    private static void promise29Longest() {
        CitationFormatter x = Checks.loaded("workAaBaCaDa10a;workAbBaCaDa10a;workAaBaCaDa10b;"
                + "workAbBaCaDa10b;workAcBaCaDa10c;");
        x.setEtAl(0, 1);
        Checks.cite(x, 0, 1, 2, 3, 4);
        dueRendered(x, 0, "(Aa&Ba&Ca&Da10a;Ab&Ba&Ca&Da10a;Aa&Ba&Ca&Da10b;Ab&Ba&Ca&Da10b;"
                + "Ac&Ba&Ca&Da10)");
        x.setStyle(2);
        dueRendered(x, 0, "Aa&Ba&Ca&Daa10;Ab&Ba&Ca&Daa10;Aa&Ba&Ca&Dab10;Ab&Ba&Ca&Dab10;"
                + "Ac&Ba&Ca&Dac10.");
        CitationFormatter most = Checks.loaded("workAaBaCaDa10a;workAaBaCaDa10b;workAaBaCaDa10c;"
                + "workAbBaCaDa10d;workAbBaCaDa10e;");
        most.setEtAl(0, 1);
        Checks.cite(most, 0, 1, 2, 3, 4);
        due("the longest line", most.renderedLength(0), 76);
    }

    private static void promise31Entries() {
        CitationFormatter x = Checks.loaded("workLaMb05b;workKaLbMcNd07t;workLaMb05a;");
        dueText("entry 0", Checks.entry(x, 0), "Ka&Lb&Mc&Nd(07)t.");
        dueText("entry 1", Checks.entry(x, 1), "La&Mb(05a)b.");
        dueText("entry 2", Checks.entry(x, 2), "La&Mb(05b)a.");
        x.setSortSlot(2, 3, 0);
        dueText("entry 1 by title", Checks.entry(x, 1), "La&Mb(05a)a.");
        x.setStyle(2);
        dueText("a note's entry has no suffix", Checks.entry(x, 1), "La&Mb(05)a.");
        x.setStyle(1);
        dueText("a numeric entry has none either", Checks.entry(x, 1), "[2]La&Mb(05)a.");
        x.setNumbering(1);
        Checks.cite(x, 2, 0);
        dueText("by ascending numbers", Checks.entry(x, 0), "[1]La&Mb(05)a.");
        dueText("by ascending numbers", Checks.entry(x, 1), "[2]La&Mb(05)b.");
        dueText("by ascending numbers", Checks.entry(x, 2), "[3]Ka&Lb&Mc&Nd(07)t.");
        x.setStyle(0);
        dueText("in bibliography order", Checks.entry(x, 0), "Ka&Lb&Mc&Nd(07)t.");
    }

    private static void promise31Arguments() {
        CitationFormatter x = Checks.loaded("workKa07a;");
        due("entryCharacter(-1, 0)", x.entryCharacter(-1, 0), -1);
        due("entryCharacter(1, 0)", x.entryCharacter(1, 0), -1);
        due("entryCharacter(1, 99)", x.entryCharacter(1, 99), -1);
        due("entryCharacter(0, -1)", x.entryCharacter(0, -1), -1);
        due("entryCharacter(0, 0)", x.entryCharacter(0, 0), 'K');
        due("entryCharacter(0, 7)", x.entryCharacter(0, 7), '.');
        due("entryCharacter(0, 8)", x.entryCharacter(0, 8), -9);
        due("entryCharacter(0, greatest)", x.entryCharacter(0, Integer.MAX_VALUE), -9);
    }
}
