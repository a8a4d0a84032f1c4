/** Counts the answers that are not the ones due, and reads whole lines from a formatter. */
final class Checks {
    private int made = 0;
    private int wrong = 0;
    private String sentence = "";
    private int madeBeforeSentence = -1;

    /** Wrong answers are told with this sentence of the document, until the next one. */
    void sentence(String words) {
        endSentence();
        sentence = words;
        madeBeforeSentence = made;
    }

    void due(String call, long got, long want) {
        made++;
        if (got != want) {
            tell(call + " answered " + got + ", due is " + want);
        }
    }

    void dueText(String call, String got, String want) {
        made++;
        if (!got.equals(want)) {
            tell(call + " answered \"" + got + "\", due is \"" + want + "\"");
        }
    }

    private void tell(String fault) {
        wrong++;
        System.out.println(sentence.isEmpty() ? fault : fault + " <" + sentence + ">");
    }

    private void endSentence() {
        if (made == madeBeforeSentence) {
            tell("no answer was looked at");
        }
    }

    /** Ends the program with exit code 1 if an answer was wrong, or if none was looked at. */
    void close(String test) {
        endSentence();
        System.out.println(test + ": " + made + " answers, " + wrong + " wrong");
        if (wrong != 0 || made == 0) {
            System.exit(1);
        }
    }

    static void type(CitationFormatter x, String text) {
        for (int i = 0; i < text.length(); i++) {
            x.appendCharacter(text.charAt(i));
        }
    }

    static CitationFormatter loaded(String text) {
        CitationFormatter x = new CitationFormatter();
        type(x, text);
        int answer = x.loadWorks();
        if (answer < 0) {
            throw new IllegalStateException("\"" + text + "\" did not load: " + answer);
        }
        return x;
    }

    /** Adds a citation of the works, in this order. */
    static void cite(CitationFormatter x, int... works) {
        x.beginCitation(works[0]);
        for (int i = 1; i < works.length; i++) {
            x.addToCitation(works[i]);
        }
    }

    static String rendered(CitationFormatter x, int citation) {
        StringBuilder line = new StringBuilder();
        for (int code = x.renderedCharacter(citation, 0); code >= 0;
                code = x.renderedCharacter(citation, line.length())) {
            line.append((char) code);
        }
        return line.toString();
    }

    static String entry(CitationFormatter x, int position) {
        StringBuilder line = new StringBuilder();
        for (int code = x.entryCharacter(position, 0); code >= 0;
                code = x.entryCharacter(position, line.length())) {
            line.append((char) code);
        }
        return line.toString();
    }

    /** The works in the order of the bibliography, as digits. */
    static String listing(CitationFormatter x) {
        StringBuilder line = new StringBuilder();
        for (int position = 0; position < x.workCount(); position++) {
            line.append(x.bibliographyAt(position));
        }
        return line.toString();
    }

    /** The numbers of the works 0, 1 and so on, as digits. */
    static String numbers(CitationFormatter x) {
        StringBuilder line = new StringBuilder();
        for (int work = 0; work < x.workCount(); work++) {
            line.append(x.numberOf(work));
        }
        return line.toString();
    }

    /** The suffixes of the works 0, 1 and so on, a hyphen for none. */
    static String suffixes(CitationFormatter x) {
        StringBuilder line = new StringBuilder();
        for (int work = 0; work < x.workCount(); work++) {
            int suffix = x.suffixOf(work);
            line.append(suffix == CitationFormatter.NONE ? '-' : (char) suffix);
        }
        return line.toString();
    }

    /** How many authors the works 0, 1 and so on show, an i behind it where they show initials. */
    static String shown(CitationFormatter x) {
        StringBuilder line = new StringBuilder();
        for (int work = 0; work < x.workCount(); work++) {
            line.append(x.shownAuthors(work)).append(x.showsInitials(work) == 1 ? "i" : "");
        }
        return line.toString();
    }
}
