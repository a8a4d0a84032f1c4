/**
 * The bounds of the text buffer, of the works in it and of promises 1 to 5: a test for each sentence
 * of the document that names one.
 */
public final class TextBoundsTest {
    private static final String WORK = "workAa00a;";
    private static final int LEAST = Integer.MIN_VALUE;
    private static final int GREATEST = Integer.MAX_VALUE;
    private static final Checks CHECKS = new Checks();

    public static void main(String[] args) {
        atMostEightWorks();
        partsOfAWork();
        lettersOfAnAuthor();
        bufferOf150();
        lexemes();
        eachCodeAtEachPlace();
        spaces();
        grammar();
        authorIsTwoLetters();
        yearIsTwoDigits();
        titleIsOneLetter();
        ninthWorkAndFifthAuthor();
        emptyText();
        errorOffset();
        textEndsInsideAWork();
        newObject();
        appendCharacter();
        clearText();
        loadWorksReplaces();
        loadWorksKeepsSettings();
        loadWorksAnswer();
        numbersForm();
        numbersItem();
        numbersDigit();
        numbersSpaces();
        numbersAlwaysAllowed();
        numbersBuffer();
        numbersAnswer();
        numbersWithEachCodeAtEachPlace();
        CHECKS.close("TextBoundsTest");
    }

    private static void due(String call, int got, int want) {
        CHECKS.due(call, got, want);
    }

    private static void load(String text, int want) {
        CitationFormatter x = new CitationFormatter();
        Checks.type(x, text);
        due("load \"" + text + "\"", x.loadWorks(), want);
    }

    private static void refused(String text, int offset) {
        load(text, -10 - offset);
    }

    private static String workWithAuthors(int authors) {
        return "work" + "Aa".repeat(authors) + "00a;";
    }

    private static void atMostEightWorks() {
        CHECKS.sentence("The database holds at most 8 works, numbered from 0.");
        for (int works = 0; works <= 8; works++) {
            CitationFormatter x = Checks.loaded(WORK.repeat(works));
            due("count of " + works, x.workCount(), works);
            due("before the first", x.authorCount(-1), -1);
            for (int work = 0; work < works; work++) {
                due("work " + work + " of " + works, x.authorCount(work), 1);
            }
            due("behind the last of " + works, x.authorCount(works), -1);
        }
        CitationFormatter full = Checks.loaded(WORK.repeat(8));
        Checks.type(full, WORK.repeat(9));
        due("nine works", full.loadWorks(), -10 - 80);
        due("eight stay", full.workCount(), 8);
        full.clearText();
        Checks.type(full, WORK.repeat(8));
        due("eight in the place of eight", full.loadWorks(), 8);
    }

    private static void partsOfAWork() {
        CHECKS.sentence("A work has 1 to 4 authors, a year from 0 to 99, and a title, which is one "
                + "letter from a to z.");
        refused(workWithAuthors(0), 4);
        for (int authors = 1; authors <= 4; authors++) {
            CitationFormatter x = Checks.loaded(workWithAuthors(authors));
            due("authors", x.authorCount(0), authors);
        }
        refused(workWithAuthors(5), 12);
        for (int year = 0; year <= 99; year++) {
            String digits = "" + year / 10 + year % 10;
            CitationFormatter x = Checks.loaded("workAa" + digits + "t;");
            due("year " + digits, x.setYear(0, 1), year);
        }
        for (char title = 'a'; title <= 'z'; title++) {
            CitationFormatter x = Checks.loaded("workAa00" + title + ";");
            due("title " + title, x.entryCharacter(0, 6), title);
        }
        for (char title : new char[] {'a' - 1, 'z' + 1, 'A', 'Z', '0', '9', 0, 255}) {
            refused("workAa 00 " + title + ";", 10);
        }
    }

    private static void lettersOfAnAuthor() {
        CHECKS.sentence("An author has a family name, which is one letter from A to Z, and an "
                + "initial, which is one letter from a to z.");
        for (int letter = 0; letter < 26; letter++) {
            char family = (char) ('A' + letter);
            char initial = (char) ('z' - letter);
            CitationFormatter x = Checks.loaded("work" + family + initial + "00a;");
            due("family " + family, x.entryCharacter(0, 0), family);
            due("initial " + initial, x.entryCharacter(0, 1), initial);
        }
        for (char other : new char[] {'A' - 1, 'Z' + 1, 'a' - 1, 'z' + 1, 192, 0, 255}) {
            refused("work" + other + "a00a;", 4);
            refused("workA" + other + "00a;", 4);
            refused("workAaB" + other + "00a;", 6);
        }
        refused("workaa00a;", 0);
        refused("work aa00a;", 5);
        refused("workAA00a;", 4);
    }

    private static void bufferOf150() {
        CHECKS.sentence("Works are loaded from a text buffer of at most 150 characters.");
        String blanks = " ".repeat(140);
        load(blanks + WORK, 1);
        load(WORK + blanks, 1);
        // The semicolon would be the 151st character: it does not come into the buffer.
        refused(" " + blanks + WORK, 150);
        load(workWithAuthors(4).repeat(8) + " ".repeat(22), 8);
        load(workWithAuthors(4).repeat(8) + " ".repeat(21) + "x", -10 - 149);
        load(workWithAuthors(4).repeat(8) + " ".repeat(22) + "x", 8);
    }

    private static void lexemes() {
        CHECKS.sentence("A lexeme of the text is one of the following: a maximal run of the letters "
                + "a to z; an upper-case letter together with the lower-case letter that follows it "
                + "immediately; a maximal run of digits; any other single character except the "
                + "space (an upper-case letter that is not followed immediately by a lower-case "
                + "letter is such a character).");
        refused("workwork", 0);
        refused("workk Aa00a;", 0);
        refused("awork Aa00a;", 0);
        refused("workAab00a;", 6);
        refused("workAabcd00a;", 6);
        refused("workAa00ab;", 8);
        refused("workAa000a;", 6);
        refused("workAa00" + "0".repeat(142), 6);
        refused("workAa00" + "a".repeat(142), 8);
        refused("workA", 4);
        refused("workAa" + "B", 6);
        refused("workA a00a;", 4);
        refused("workA00a;", 4);
        refused("workABa00a;", 4);
        refused("workAaB", 6);
        refused(" ".repeat(145) + "workA", 149);
        load(" ".repeat(144) + "workAa", -10 - 150);
        refused(";;", 0);
        refused("workAa00a;;", 10);
        refused("workAa00a;" + (char) 0, 10);
        refused("workAa00a;" + (char) 255, 10);
    }

    /** Each code is put in each place of a text, in front of what stands there and instead of it. */
    private static void eachCodeAtEachPlace() {
        String text = "work Ka Lb07t;";
        for (int at = 0; at <= text.length(); at++) {
            for (int code = 0; code <= 255; code++) {
                String rest = text.substring(at);
                sameAsReference(text.substring(0, at) + (char) code + rest);
                if (!rest.isEmpty()) {
                    sameAsReference(text.substring(0, at) + (char) code + rest.substring(1));
                }
            }
        }
    }

    private static void sameAsReference(String text) {
        CitationFormatter x = new CitationFormatter();
        ReferenceFormatter r = new ReferenceFormatter();
        for (int i = 0; i < text.length(); i++) {
            x.appendCharacter(text.charAt(i));
            r.appendCharacter(text.charAt(i));
        }
        due("load \"" + text + "\"", x.loadWorks(), r.loadWorks());
        due("left of \"" + text + "\"", x.clearText(), r.clearText());
    }

    private static void spaces() {
        CHECKS.sentence("Spaces (code 32) separate lexemes and have no other effect.");
        load("  work  Ka  Lb  07  t  ;  work Ma 08 u ;  ", 2);
        load("workKaLb07t;workMa08u;", 2);
        load("workKa 07t;", 1);
        refused("wor k Ka07t;", 0);
        refused("work K a07t;", 5);
        refused("work Ka0 7t;", 7);
        refused("work Ka07t t;", 11);
        for (int code : new int[] {0, 9, 10, 11, 12, 13, 31, 33, 127, 133, 160}) {
            refused((char) code + "workKa07t;", 0);
            refused("work" + (char) code + "Ka07t;", 4);
            refused("workKa07t;" + (char) code, 10);
        }
        CitationFormatter x = Checks.loaded("  work  Ka  Lb  07  t  ;  ");
        CHECKS.dueText("the spaces are no part of a work", Checks.entry(x, 0), "Ka&Lb(07)t.");
    }

    private static void grammar() {
        CHECKS.sentence("works  = { \"work\" author { author } year title \";\" }");
        load("", 0);
        load("workKa07t;", 1);
        load("workKaLb07t;", 1);
        load("workKa07t;workKa07t;", 2);
        refused("Ka07t;", 0);
        refused("07t;", 0);
        refused("t;", 0);
        refused(";", 0);
        refused("work;", 4);
        refused("work work", 5);
        refused("work07t;", 4);
        refused("workKa;", 6);
        refused("workKa t;", 7);
        refused("workKa work", 7);
        refused("workKa07;", 8);
        refused("workKa07 08t;", 9);
        refused("workKa07Lb", 8);
        refused("workKa07t08", 9);
        refused("workKa07tLb", 9);
        refused("workKa07t work", 10);
        refused("workKa07t;Ka", 10);
        refused("workKa07t;07", 10);
        refused("workKa07t;t", 10);
        refused("workKa07t;;", 10);
    }

    private static void authorIsTwoLetters() {
        CHECKS.sentence("An author is an upper-case letter together with a lower-case letter.");
        load("workAaZz00a;", 1);
        load("workAzZa00a;", 1);
        refused("workA00a;", 4);
        refused("work a00a;", 5);
        refused("workAaB00a;", 6);
        refused("workAab00a;", 6);
        refused("workAAa00a;", 4);
        refused("workA0a00a;", 4);
    }

    private static void yearIsTwoDigits() {
        CHECKS.sentence("A year is a run of exactly two digits.");
        refused("workAa a;", 7);
        refused("workAa0a;", 6);
        load("workAa00a;", 1);
        load("workAa99a;", 1);
        refused("workAa000a;", 6);
        refused("workAa099a;", 6);
        refused("workAa1999a;", 6);
        refused("workAa0/a;", 6);
        refused("workAa/0a;", 6);
        refused("workAa9:a;", 6);
        refused("workAa:9a;", 6);
        refused("workAa-1a;", 6);
        refused("workAa00/a;", 8);
        refused("workAa00:a;", 8);
    }

    private static void titleIsOneLetter() {
        CHECKS.sentence("A title is a run of exactly one letter.");
        refused("workAa00;", 8);
        load("workAa00a;", 1);
        load("workAa00z;", 1);
        refused("workAa00aa;", 8);
        refused("workAa00az;", 8);
        refused("workAa00work;", 8);
        refused("workAa00A;", 8);
        refused("workAa00Aa;", 8);
        refused("workAa00`;", 8);
        refused("workAa00{;", 8);
    }

    private static void ninthWorkAndFifthAuthor() {
        CHECKS.sentence("A ninth \"work\" and a fifth author of a work are not allowed.");
        refused(WORK.repeat(8) + "work", 80);
        refused(WORK.repeat(9), 80);
        refused(WORK.repeat(8) + "  work", 82);
        refused(WORK.repeat(8) + "works", 80);
        refused(WORK.repeat(8) + ";", 80);
        refused(WORK.repeat(7) + "workAa00a work", 80);
        load(WORK.repeat(8), 8);
        load(WORK.repeat(7) + "workAaBbCcDd00a;", 8);
        refused("workAaBbCcDdEe", 12);
        refused("workAaBbCcDd Ee00a;", 13);
        refused("workAaBbCcDdE", 12);
        refused("workAaAaAaAaAa00a;", 12);
        load("workAaAaAaAa00a;", 1);
        load("workAaBbCcDd00a;workEe00a;", 2);
        refused("workAa00a;workAaBbCcDdEe", 22);
        refused(WORK.repeat(7) + "workAaBbCcDdEe", 82);
        // Each work has a count of its own: the authors of the works before do not add up.
        load("workAaBb00a;workCcDd00a;workEeFfGg00a;", 3);
    }

    private static void emptyText() {
        CHECKS.sentence("An empty text loads an empty database.");
        CitationFormatter x = Checks.loaded(WORK.repeat(8));
        x.beginCitation(7);
        due("load", x.loadWorks(), 0);
        due("no works", x.workCount(), 0);
        due("no work 0", x.authorCount(0), -1);
        due("no citations", x.citationCount(), 0);
        due("no entry", x.bibliographyAt(0), -1);
        due("it is an edit", x.undo(), 2);
        due("eight works again", x.workCount(), 8);
        due("one citation again", x.citationCount(), 1);
        load("", 0);
        load(" ", 0);
        load(" ".repeat(150), 0);
    }

    private static void errorOffset() {
        CHECKS.sentence("The error offset of a text is the 0-based offset of the first character of "
                + "the first lexeme that is not allowed where it stands.");
        refused("x", 0);
        refused("xyz", 0);
        refused("   xyz", 3);
        refused("work Ka 123 t;", 8);
        refused("work Ka 07 title;", 11);
        refused("work Ka ? ? ?", 8);
        refused("work ?", 5);
        refused("work", 4);
        refused("wor", 0);
        refused(" ".repeat(149) + "x", 149);
        refused(WORK + " ".repeat(137) + "wor", 147);
        refused("x".repeat(150), 0);
    }

    private static void textEndsInsideAWork() {
        CHECKS.sentence("If all lexemes are allowed but the text ends inside a work, the error "
                + "offset is the length of the text.");
        String[] begun = {"work", "workAa", "workAaBb", "workAaBbCcDd", "workAa00", "workAa00a"};
        for (String text : begun) {
            refused(text, text.length());
            refused(text + " ", text.length() + 1);
            refused("   " + text + "   ", text.length() + 6);
            refused(WORK + text, 10 + text.length());
            refused(WORK.repeat(7) + text, 70 + text.length());
            refused(" ".repeat(150 - text.length()) + text, 150);
        }
        load("workAa00a;", 1);
    }

    private static void newObject() {
        CHECKS.sentence("No works, no citations, an empty text buffer, the initial settings, nothing "
                + "to undo.");
        CitationFormatter x = new CitationFormatter();
        due("workCount", x.workCount(), 0);
        due("citationCount", x.citationCount(), 0);
        due("undo", x.undo(), -2);
        due("clearText", x.clearText(), 0);
        for (int i : new int[] {LEAST, -1, 0, 1, 8, GREATEST}) {
            due("removeWork", x.removeWork(i), -1);
            due("setYear", x.setYear(i, 0), -1);
            due("beginCitation", x.beginCitation(i), -1);
            due("addToCitation", x.addToCitation(i), -1);
            due("removeCitation", x.removeCitation(i), -1);
            due("authorCount", x.authorCount(i), -1);
            due("citationSize", x.citationSize(i), -1);
            due("bibliographyAt", x.bibliographyAt(i), -1);
            due("numberOf", x.numberOf(i), -1);
            due("shownAuthors", x.shownAuthors(i), -1);
            due("showsInitials", x.showsInitials(i), -1);
            due("suffixOf", x.suffixOf(i), -1);
            due("ambiguousWith", x.ambiguousWith(i), -1);
            due("renderedLength", x.renderedLength(i), -1);
            due("renderedCharacter", x.renderedCharacter(i, 0), -1);
            due("entryCharacter", x.entryCharacter(i, 0), -1);
        }
        due("still nothing to undo", x.undo(), -2);
        due("style", x.setStyle(2), 0);
        due("et al", x.setEtAl(0, 3), 31);
        due("steps", x.setDisambiguation(0), 7);
        due("collapse level", x.setCollapseLevel(2), 0);
        due("slot 0", x.setSortSlot(0, 0, 0), 2);
        due("slot 1", x.setSortSlot(1, 0, 0), 4);
        due("slot 2", x.setSortSlot(2, 1, 0), 0);
        due("numbering", x.setNumbering(1), 0);
        due("cite order", x.setCiteOrder(1), 0);
    }

    private static void appendCharacter() {
        CHECKS.sentence("Returns the new length of the buffer; INVALID_ARGUMENT if the code is out "
                + "of range; LIMIT_REACHED if the buffer holds 150 characters.");
        CitationFormatter x = new CitationFormatter();
        for (int code : new int[] {LEAST, LEAST + 1, -1, 256, 257, 65536, GREATEST}) {
            due("code " + code, x.appendCharacter(code), -1);
        }
        due("nothing came in", x.clearText(), 0);
        for (int length = 1; length <= 149; length++) {
            due("length", x.appendCharacter(length % 2 == 0 ? 0 : 255), length);
        }
        due("the 150th", x.appendCharacter(0), 150);
        due("the 151st", x.appendCharacter(0), -3);
        due("the 151st, once more", x.appendCharacter(255), -3);
        due("a code below, and no place", x.appendCharacter(-1), -1);
        due("a code above, and no place", x.appendCharacter(256), -1);
        due("it holds 150", x.clearText(), 150);
        due("there is place again", x.appendCharacter(0), 1);
    }

    private static void clearText() {
        CHECKS.sentence("Returns the length that it had.");
        CitationFormatter x = new CitationFormatter();
        due("of an empty buffer", x.clearText(), 0);
        x.appendCharacter(0);
        due("of one character", x.clearText(), 1);
        due("of an empty buffer, again", x.clearText(), 0);
        Checks.type(x, " ".repeat(151));
        due("of a full buffer", x.clearText(), 150);
        due("and it is empty", x.appendCharacter(' '), 1);
    }

    private static void loadWorksReplaces() {
        CHECKS.sentence("Replaces the database by the works of the text buffer, removes all "
                + "citations, and empties the buffer.");
        CitationFormatter x = Checks.loaded(WORK.repeat(8));
        for (int citation = 0; citation < 10; citation++) {
            x.beginCitation(citation % 8);
        }
        Checks.type(x, "workZzYy99z;");
        due("one work in the place of eight", x.loadWorks(), 1);
        due("one work", x.workCount(), 1);
        due("its authors", x.authorCount(0), 2);
        due("no second work", x.authorCount(1), -1);
        due("no citation", x.citationCount(), 0);
        due("none to add to", x.addToCitation(0), -2);
        due("the buffer is empty", x.clearText(), 0);
        CHECKS.dueText("its entry", Checks.entry(x, 0), "Zz&Yy(99)z.");
        due("a citation is the first again", x.beginCitation(0), 0);
    }

    private static void loadWorksKeepsSettings() {
        CHECKS.sentence("The settings stay.");
        CitationFormatter x = new CitationFormatter();
        x.setStyle(2);
        x.setEtAl(5, 3);
        x.setDisambiguation(1);
        x.setCollapseLevel(2);
        x.setSortSlot(0, 3, 1);
        x.setSortSlot(1, 3, 1);
        x.setSortSlot(2, 3, 1);
        x.setNumbering(1);
        x.setCiteOrder(1);
        Checks.type(x, WORK);
        x.loadWorks();
        due("style", x.setStyle(0), 2);
        due("et al", x.setEtAl(3, 1), 53);
        due("steps", x.setDisambiguation(7), 1);
        due("collapse level", x.setCollapseLevel(0), 2);
        due("slot 0", x.setSortSlot(0, 0, 0), 7);
        due("slot 1", x.setSortSlot(1, 0, 0), 7);
        due("slot 2", x.setSortSlot(2, 0, 0), 7);
        due("numbering", x.setNumbering(0), 1);
        due("cite order", x.setCiteOrder(0), 1);
    }

    private static void loadWorksAnswer() {
        CHECKS.sentence("Returns the number of works; -10 minus the error offset if the text is in "
                + "error (the buffer is kept then).");
        for (int works = 0; works <= 8; works++) {
            load(WORK.repeat(works), works);
        }
        refused("?", 0);
        refused(" ".repeat(149) + "?", 149);
        refused(" ".repeat(146) + "work", 150);
        CitationFormatter x = new CitationFormatter();
        Checks.type(x, "work");
        due("ends too early", x.loadWorks(), -14);
        Checks.type(x, "Aa00a");
        due("still too early", x.loadWorks(), -19);
        Checks.type(x, ";");
        due("now it is whole", x.loadWorks(), 1);
        Checks.type(x, "?");
        due("in error", x.loadWorks(), -10);
        due("in error again", x.loadWorks(), -10);
        due("the buffer is kept", x.clearText(), 1);
    }

    private static CitationFormatter works(int count) {
        StringBuilder text = new StringBuilder();
        for (int work = 0; work < count; work++) {
            text.append("work").append((char) ('A' + work)).append("a00a;");
        }
        return Checks.loaded(text.toString());
    }

    private static void expand(int works, String text, int want) {
        CitationFormatter x = works(works);
        Checks.type(x, text);
        due(works + " works, expand \"" + text + "\"", x.expandNumbers(), want);
    }

    private static void numbersForm() {
        CHECKS.sentence("Parses the text buffer as a rendered numeric citation: [ followed by one or "
                + "more items, joined by commas, followed by ].");
        expand(3, "[]", -11);
        expand(3, "[1]", 1);
        expand(3, "[1,2]", 3);
        expand(3, "[1,2,3]", 7);
        expand(3, "[" + "1,".repeat(73) + "1-3", -160);
        expand(3, "[" + "1,".repeat(73) + "2-3]", -160);
        expand(3, "[" + "1,".repeat(73) + "11]", -158);
        expand(3, "[" + "1,".repeat(72) + "2-3]", 7);
        expand(3, "[" + "1,".repeat(73) + "3]", 5);
        expand(3, "[1,]", -13);
        expand(3, "[,1]", -11);
        expand(3, "[1,,2]", -13);
        expand(3, "[1;2]", -12);
        expand(3, "1]", -10);
        expand(3, "(1)", -10);
        expand(3, "[1)", -12);
        expand(3, "[[1]]", -11);
        expand(3, "[1]]", -13);
        expand(3, "[1][2]", -13);
        expand(3, "[1,2", -14);
    }

    private static void numbersItem() {
        CHECKS.sentence("An item is a number, or two numbers joined by a hyphen (-), the second one "
                + "greater than the first; it stands for the first, the last and all numbers between "
                + "them.");
        for (int first = 1; first <= 8; first++) {
            for (int last = 1; last <= 8; last++) {
                int between = (1 << last) - (1 << first - 1);
                expand(8, "[" + first + "-" + last + "]", last > first ? between : -13);
            }
        }
        expand(8, "[1-2-3]", -14);
        expand(8, "[1--2]", -13);
        expand(8, "[-1]", -11);
        expand(8, "[1-2,4-5,7-8]", 0b11011011);
        expand(8, "[2-8,1]", 255);
        expand(8, "[5,3-4]", 0b11100);
        expand(8, "[3-4,3-4,1-8]", 255);
        // A comma begins a new item: the number before it bounds it no more.
        expand(8, "[8,1-2]", 0b10000011);
        expand(8, "[7-8,1-2]", 0b11000011);
    }

    private static void numbersDigit() {
        CHECKS.sentence("A number is one digit, from 1 to the number of works.");
        for (int works = 0; works <= 8; works++) {
            for (int number = 0; number <= 9; number++) {
                boolean exists = number >= 1 && number <= works;
                expand(works, "[" + number + "]", exists ? 1 << number - 1 : -11);
            }
            if (works >= 2) {
                expand(works, "[1-" + works + "]", (1 << works) - 1);
            }
            if (works >= 1) {
                expand(works, "[1-" + (works + 1) + "]", -13);
                expand(works, "[1," + (works + 1) + "]", -13);
                expand(works, "[1,0]", -13);
                expand(works, "[1-0]", -13);
            }
        }
        expand(8, "[10]", -12);
        expand(8, "[01]", -11);
        expand(8, "[1-23]", -14);
        expand(8, "[/]", -11);
        expand(8, "[:]", -11);
        expand(8, "[" + (char) ('1' + 128) + "]", -11);
    }

    private static void numbersSpaces() {
        CHECKS.sentence("Spaces are not allowed.");
        expand(3, " [1,2-3]", -10);
        expand(3, "[ 1,2-3]", -11);
        expand(3, "[1 ,2-3]", -12);
        expand(3, "[1, 2-3]", -13);
        expand(3, "[1,2 -3]", -14);
        expand(3, "[1,2- 3]", -15);
        expand(3, "[1,2-3 ]", -16);
        expand(3, "[1,2-3] ", -17);
        expand(3, " ", -10);
    }

    private static void numbersAlwaysAllowed() {
        CHECKS.sentence("In searching for an error, the opening bracket, a comma behind an item, and "
                + "a hyphen behind the first number of an item are always allowed, even if no number "
                + "can follow.");
        expand(0, "[", -11);
        expand(0, "[1", -11);
        expand(0, "[]", -11);
        expand(1, "[1,", -13);
        expand(1, "[1,1]", 1);
        expand(1, "[1-", -13);
        expand(1, "[1-1", -13);
        expand(1, "[1-2", -13);
        expand(8, "[8-", -13);
        expand(8, "[8-9", -13);
        expand(8, "[7-8,", -15);
        expand(8, "[7-8-", -14);
        expand(8, "[8,-", -13);
    }

    private static void numbersBuffer() {
        CHECKS.sentence("The buffer is emptied if it is in this form.");
        CitationFormatter x = works(2);
        Checks.type(x, "[1-2");
        due("incomplete", x.expandNumbers(), -14);
        due("still incomplete", x.expandNumbers(), -14);
        Checks.type(x, "]");
        due("complete", x.expandNumbers(), 3);
        due("it is empty now", x.clearText(), 0);
        due("and no form of it", x.expandNumbers(), -10);
        Checks.type(x, "[1]x");
        due("one sign too many", x.expandNumbers(), -13);
        due("the buffer is kept", x.clearText(), 4);
        due("it was no edit", x.undo(), 0);
    }

    private static void numbersAnswer() {
        CHECKS.sentence("Returns a bit set of the works that have these numbers, bit w for work w; "
                + "-10 minus the 0-based offset of the first character that cannot continue such a "
                + "text, or minus the length of the buffer if the text is incomplete (the buffer is "
                + "kept then).");
        CitationFormatter x = works(8);
        x.setSortSlot(0, 1, 1);
        Checks.type(x, "[1]");
        due("number 1 is work 7", x.expandNumbers(), 128);
        Checks.type(x, "[8]");
        due("number 8 is work 0", x.expandNumbers(), 1);
        x.setNumbering(1);
        Checks.cite(x, 4, 2);
        Checks.type(x, "[1-2]");
        due("the works cited first", x.expandNumbers(), 0b10100);
        Checks.type(x, "[3,8]");
        due("the works that are not cited", x.expandNumbers(), 0b10000001);
        expand(8, "", -10);
        expand(8, "?", -10);
        expand(8, "[" + "1,".repeat(74) + "?", -159);
        expand(8, "[" + "1,".repeat(74) + "1", -160);
    }

    private static void numbersWithEachCodeAtEachPlace() {
        String text = "[1,2-3]";
        for (int at = 0; at <= text.length(); at++) {
            for (int code = 0; code <= 255; code++) {
                String rest = text.substring(at);
                expandAsReference(text.substring(0, at) + (char) code + rest);
                if (!rest.isEmpty()) {
                    expandAsReference(text.substring(0, at) + (char) code + rest.substring(1));
                }
            }
        }
    }

    private static void expandAsReference(String text) {
        CitationFormatter x = works(3);
        ReferenceFormatter r = new ReferenceFormatter();
        "workAa00a;workBa00a;workCa00a;".chars().forEach(r::appendCharacter);
        r.loadWorks();
        for (int i = 0; i < text.length(); i++) {
            x.appendCharacter(text.charAt(i));
            r.appendCharacter(text.charAt(i));
        }
        due("expand \"" + text + "\"", x.expandNumbers(), r.expandNumbers());
        due("left of \"" + text + "\"", x.clearText(), r.clearText());
    }
}
