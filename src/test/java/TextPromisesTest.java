/** Promises 1 to 5: the new object, the text buffer, loading works and expanding numbers. */
public final class TextPromisesTest {
    private static final String FIVE_WORKS =
            "work Aa 01 a; work Ba 02 b; work Ca 03 c; work Da 04 d; work Ea 05 e;";
    private static final Checks CHECKS = new Checks();

    public static void main(String[] args) {
        promise1NewObject();
        promise1InitialSettings();
        promise2AppendCharacter();
        promise3ClearText();
        promise4LoadWorks();
        promise4Lexemes();
        promise4ErrorOffsets();
        promise4Limits();
        promise4LooksAtTheTextAlone();
        promise4ErrorChangesNothing();
        promise5ExpandNumbers();
        promise5ErrorOffsets();
        promise5UsesTheNumbering();
        CHECKS.close("TextPromisesTest");
    }

    private static void due(String call, int got, int want) {
        CHECKS.due(call, got, want);
    }

    private static void promise1NewObject() {
        CitationFormatter x = new CitationFormatter();
        due("new: workCount", x.workCount(), 0);
        due("new: citationCount", x.citationCount(), 0);
        due("new: clearText", x.clearText(), 0);
        due("new: undo", x.undo(), -2);
        due("new: bibliographyAt(0)", x.bibliographyAt(0), -1);
        due("new: entryCharacter(0, 0)", x.entryCharacter(0, 0), -1);
        due("new: renderedLength(0)", x.renderedLength(0), -1);
    }

    private static void promise1InitialSettings() {
        CitationFormatter x = new CitationFormatter();
        due("initial style", x.setStyle(1), 0);
        due("initial et al", x.setEtAl(1, 2), 31);
        due("initial steps", x.setDisambiguation(0), 7);
        due("initial collapse level", x.setCollapseLevel(2), 0);
        due("initial slot 0", x.setSortSlot(0, 3, 1), 2);
        due("initial slot 1", x.setSortSlot(1, 3, 1), 4);
        due("initial slot 2", x.setSortSlot(2, 3, 1), 0);
        due("initial numbering", x.setNumbering(1), 0);
        due("initial cite order", x.setCiteOrder(1), 0);
        CitationFormatter other = new CitationFormatter();
        due("another object has its own settings", other.setEtAl(0, 1), 31);
        due("another object has its own slots", other.setSortSlot(1, 0, 0), 4);
    }

    private static void promise2AppendCharacter() {
        CitationFormatter x = new CitationFormatter();
        due("append 0", x.appendCharacter(0), 1);
        due("append 255", x.appendCharacter(255), 2);
        due("append -1", x.appendCharacter(-1), -1);
        due("append 256", x.appendCharacter(256), -1);
        due("append least int", x.appendCharacter(Integer.MIN_VALUE), -1);
        due("append greatest int", x.appendCharacter(Integer.MAX_VALUE), -1);
        for (int length = 3; length <= 150; length++) {
            due("append number " + length, x.appendCharacter(' '), length);
        }
        due("append to a full buffer", x.appendCharacter(' '), -3);
        due("append a wrong code to a full buffer", x.appendCharacter(256), -1);
        due("the buffer stays full", x.clearText(), 150);
        due("append after clearing", x.appendCharacter(' '), 1);
        due("append is no edit", x.undo(), -2);
    }

    private static void promise3ClearText() {
        CitationFormatter x = new CitationFormatter();
        Checks.type(x, "work");
        due("clear four", x.clearText(), 4);
        due("clear none", x.clearText(), 0);
        due("nothing is left to load", x.loadWorks(), 0);
    }

    private static void promise4LoadWorks() {
        CitationFormatter x = new CitationFormatter();
        due("load an empty text", x.loadWorks(), 0);
        Checks.type(x, "   ");
        due("load spaces alone", x.loadWorks(), 0);
        due("spaces are gone", x.clearText(), 0);
        Checks.type(x, "workKaLbMcNd07t;work Oz 99 z ;");
        due("load two works", x.loadWorks(), 2);
        due("the buffer is empty then", x.clearText(), 0);
        due("four authors", x.authorCount(0), 4);
        due("one author", x.authorCount(1), 1);
        CHECKS.dueText("the first work", Checks.entry(x, 0), "Ka&Lb&Mc&Nd(07)t.");
        CHECKS.dueText("the second work", Checks.entry(x, 1), "Oz(99)z.");
        x.setStyle(2);
        x.setEtAl(5, 2);
        x.beginCitation(0);
        Checks.type(x, "workAa00a;");
        due("load again", x.loadWorks(), 1);
        due("the works are replaced", x.workCount(), 1);
        due("the citations are gone", x.citationCount(), 0);
        due("the style stays", x.setStyle(0), 2);
        due("the et al settings stay", x.setEtAl(3, 1), 52);
    }

    private static void load(String text, int want) {
        CitationFormatter x = new CitationFormatter();
        Checks.type(x, text);
        due("load \"" + text + "\"", x.loadWorks(), want);
    }

    private static void promise4Lexemes() {
        load("  work  Ka  Lb  07  t  ;  ", 1);
        load("workKaLb07t;", 1);
        load("workKaLb 07t ;workMa08u;", 2);
        load("work Kab07t;", -10 - 7);
        load("work K a07t;", -10 - 5);
        load("work KLa07t;", -10 - 5);
        load("work Ka0 7t;", -10 - 7);
        load("work Ka007t;", -10 - 7);
        load("work Ka7t;", -10 - 7);
        load("work Ka07tt;", -10 - 9);
        load("work Ka07T;", -10 - 9);
        load("work Ka07Ta;", -10 - 9);
        load("wo rk Ka07t;", -10);
        load("works Ka07t;", -10);
        load("Work Ka07t;", -10);
        load("work\tKa07t;", -10 - 4);
        load("work Ka07t;\n", -10 - 11);
        load("work Ka07t" + (char) 187, -10 - 10);
        load("work " + (char) 192 + "a07t;", -10 - 5);
        load("work K" + (char) 224 + "07t;", -10 - 5);
    }

    private static void promise4ErrorOffsets() {
        load("work", -10 - 4);
        load("work ", -10 - 5);
        load("workKa", -10 - 6);
        load("workKa07", -10 - 8);
        load("workKa07t", -10 - 9);
        load("workKa07t   ", -10 - 12);
        load("workKa07t;work", -10 - 14);
        load("workKa07t;wor", -10 - 10);
        load("workKa07t;;", -10 - 10);
        load(";", -10);
        load("  ;", -10 - 2);
        load("work07t;", -10 - 4);
        load("work t;", -10 - 5);
        load("work work", -10 - 5);
        load("workKat07;", -10 - 6);
        load("workKa 07 08 t;", -10 - 10);
        load("workKa07;", -10 - 8);
        load("workKa07t work", -10 - 10);
        load("workKa07Lbt;", -10 - 8);
    }

    private static void promise4Limits() {
        load("workKaLbMcNdOe07t;", -10 - 12);
        load("workKaLbMcNd", -10 - 12);
        load("workAa00a;".repeat(8), 8);
        load("workAa00a;".repeat(8) + " ", 8);
        load("workAa00a;".repeat(8) + " work", -10 - 81);
        load("workAa00a;".repeat(8) + "x", -10 - 80);
        load("workAaBbCcDd00a;".repeat(8), 8);
        load("workAa00a;" + " ".repeat(140), 1);
        load("workAa00a;" + " ".repeat(139) + "K", -10 - 149);
        load("workAa00a;" + " ".repeat(136) + "work", -10 - 150);
        load("a".repeat(150), -10);
        load("workAa" + "0".repeat(144), -10 - 6);
    }

    private static void promise4LooksAtTheTextAlone() {
        CitationFormatter x = new CitationFormatter();
        Checks.type(x, "workKaLbMc");
        x.clearText();
        Checks.type(x, "workK");
        due("a letter of a cleared text does not follow", x.loadWorks(), -10 - 4);
        x.clearText();
        Checks.type(x, "wor");
        due("nor does the rest of a word", x.loadWorks(), -10);
    }

    private static void promise4ErrorChangesNothing() {
        CitationFormatter x = Checks.loaded("workAa01b;");
        x.beginCitation(0);
        Checks.type(x, "workBaCb02c;work");
        due("a load in error", x.loadWorks(), -10 - 16);
        due("the works are kept", x.workCount(), 1);
        due("the authors are kept", x.authorCount(0), 1);
        CHECKS.dueText("the entry is kept", Checks.entry(x, 0), "Aa(01)b.");
        due("the citations are kept", x.citationCount(), 1);
        Checks.type(x, "Da03d;");
        due("the buffer is kept and goes on", x.loadWorks(), 2);
        due("an error is no edit", x.undo(), 2);
    }

    private static void expand(String text, int want) {
        CitationFormatter x = Checks.loaded(FIVE_WORKS);
        Checks.type(x, text);
        due("expand \"" + text + "\"", x.expandNumbers(), want);
        due("what is left of \"" + text + "\"", x.clearText(), want < 0 ? text.length() : 0);
    }

    private static void promise5ExpandNumbers() {
        expand("[1]", 1);
        expand("[5]", 16);
        expand("[1,3,5]", 21);
        expand("[5,1]", 17);
        expand("[2-4]", 14);
        expand("[1-2,4-5]", 27);
        expand("[1-5]", 31);
        expand("[2,2,2-3]", 6);
        expand("[3,1-2]", 7);
    }

    private static void promise5ErrorOffsets() {
        expand("", -10);
        expand("x", -10);
        expand(" [1]", -10);
        expand("[", -11);
        expand("[]", -11);
        expand("[0]", -11);
        expand("[6]", -11);
        expand("[,", -11);
        expand("[-", -11);
        expand("[ 1]", -11);
        expand("[1", -12);
        expand("[1 ]", -12);
        expand("[12]", -12);
        expand("[1[", -12);
        expand("[1,", -13);
        expand("[1,]", -13);
        expand("[1-", -13);
        expand("[1-]", -13);
        expand("[3-3]", -13);
        expand("[3-2]", -13);
        expand("[3-6]", -13);
        expand("[5-", -13);
        expand("[5-6", -13);
        expand("[1-3", -14);
        expand("[1-3-", -14);
        expand("[1-34", -14);
        expand("[1] ", -13);
        expand("[1]]", -13);
        expand("[1-3,4,5]x", -19);
        CitationFormatter empty = new CitationFormatter();
        Checks.type(empty, "[");
        due("an opening bracket without works", empty.expandNumbers(), -11);
        Checks.type(empty, "1]");
        due("a number without works", empty.expandNumbers(), -11);
        due("expandNumbers is no edit", empty.undo(), -2);
    }

    private static void promise5UsesTheNumbering() {
        CitationFormatter x = Checks.loaded(FIVE_WORKS);
        x.setSortSlot(0, 1, 1);
        Checks.type(x, "[1-2]");
        due("numbers of a reversed bibliography", x.expandNumbers(), 24);
        x.setNumbering(1);
        Checks.cite(x, 2, 0);
        Checks.type(x, "[1-2]");
        due("numbers by first citation", x.expandNumbers(), 5);
        Checks.type(x, "[3]");
        due("the first work that is not cited", x.expandNumbers(), 16);
        due("only edits can be undone", x.undo(), 4);
        CitationFormatter eight = Checks.loaded("workAa00a;".repeat(8));
        Checks.type(eight, "[1-8]");
        due("all of eight works", eight.expandNumbers(), 255);
        Checks.type(eight, "[8-9");
        due("there is no ninth", eight.expandNumbers(), -13);
    }
}
