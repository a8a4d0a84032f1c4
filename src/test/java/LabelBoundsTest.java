import java.util.function.IntUnaryOperator;

/**
 * The bounds of the bibliography order, the labels and promises 19 to 28: a test for each sentence
 * of the document that names one.
 */
public final class LabelBoundsTest {
    private static final String EIGHT_ALIKE = "workKa07a;".repeat(8);
    private static final Checks CHECKS = new Checks();

    public static void main(String[] args) {
        threeSlots();
        keysAndDirections();
        everySetOfSlots();
        noneIsSkipped();
        equalByAllSlots();
        authorKey();
        shorterList();
        yearKey();
        titleKey();
        descending();
        label();
        namesPart();
        initialBehindFamily();
        plusSign();
        etAlTable();
        neitherInitialsNorSuffix();
        eachSetOfSteps();
        stepsInOrder();
        groupsOfTwoOrMore();
        groupsAreFormedAnewForEachStep();
        addNames();
        addNamesTakesTheBest();
        addInitials();
        addSuffixes();
        workCount();
        authorCount();
        citationCount();
        citationSize();
        bibliographyAt();
        numberOf();
        shownAuthors();
        showsInitials();
        suffixOf();
        ambiguousWith();
        allLettersAreDifferent();
        CHECKS.close("LabelBoundsTest");
    }

    private static void due(String call, int got, int want) {
        CHECKS.due(call, got, want);
    }

    private static void dueText(String call, String got, String want) {
        CHECKS.dueText(call, got, want);
    }

    /** The numbers next to 0 to count - 1 and the farthest ones answer -1. */
    private static void dueNone(String call, IntUnaryOperator x, int count) {
        int[] outside = {Integer.MIN_VALUE, -2, -1, count, count + 1, 31, 32, Integer.MAX_VALUE};
        for (int value : outside) {
            due(call + "(" + value + ") of " + count, x.applyAsInt(value), -1);
        }
    }

    private static void setSlots(CitationFormatter x, int slot0, int slot1, int slot2) {
        x.setSortSlot(0, slot0 / 2, slot0 % 2);
        x.setSortSlot(1, slot1 / 2, slot1 % 2);
        x.setSortSlot(2, slot2 / 2, slot2 % 2);
    }

    private static String labelOf(CitationFormatter x, int work) {
        x.beginCitation(work);
        String line = Checks.rendered(x, x.citationCount() - 1);
        x.undo();
        return line.substring(1, line.length() - 1);
    }

    private static void threeSlots() {
        CHECKS.sentence("There are three sort slots, 0 to 2.");
        CitationFormatter x = Checks.loaded("workBa01a;workAa02a;");
        setSlots(x, 0, 0, 0);
        for (int slot = 0; slot <= 2; slot++) {
            due("set slot " + slot, x.setSortSlot(slot, 1, 0), 0);
            dueText("slot " + slot + " orders", Checks.listing(x), "10");
            due("clear slot " + slot, x.setSortSlot(slot, 0, 0), 2);
            dueText("without it", Checks.listing(x), "01");
        }
        dueNone("setSortSlot", slot -> x.setSortSlot(slot, 1, 0), 3);
        dueText("no other slot orders", Checks.listing(x), "01");
    }

    private static void keysAndDirections() {
        CHECKS.sentence("Each slot holds a sort key (0 none, 1 author, 2 year, 3 title) and a "
                + "direction (0 ascending, 1 descending).");
        CitationFormatter x = Checks.loaded("workBa03a;workCa01b;workAa02c;");
        String[] want = {"012", "012", "201", "102", "120", "021", "012", "210"};
        for (int held = 0; held < 8; held++) {
            setSlots(x, held, 0, 0);
            dueText("key " + held / 2 + ", direction " + held % 2, Checks.listing(x), want[held]);
            due("it is held", x.setSortSlot(0, 0, 0), held);
        }
    }

    /** All 512 sets of slots, on works with many equal keys. */
    private static void everySetOfSlots() {
        String text = "workBa02b;workAa01b;workAaBa01a;workBa01a;workAb02b;workAa01b;workBa02a;"
                + "workAa02a;";
        CitationFormatter x = Checks.loaded(text);
        ReferenceFormatter r = new ReferenceFormatter();
        for (int i = 0; i < text.length(); i++) {
            r.appendCharacter(text.charAt(i));
        }
        r.loadWorks();
        for (int set = 0; set < 512; set++) {
            for (int slot = 0; slot <= 2; slot++) {
                int held = set >> 3 * slot & 7;
                x.setSortSlot(slot, held / 2, held % 2);
                r.setSortSlot(slot, held / 2, held % 2);
            }
            for (int position = 0; position < 8; position++) {
                due("set " + set, x.bibliographyAt(position), r.bibliographyAt(position));
            }
        }
    }

    private static void noneIsSkipped() {
        CHECKS.sentence("The bibliography order compares two works by the keys of the slots 0, 1 and "
                + "2, one after the other; a slot that holds none is skipped.");
        CitationFormatter x = Checks.loaded("workBa01b;workAa02a;workAa01b;workBa01a;");
        setSlots(x, 2, 4, 6);
        dueText("author, year, title", Checks.listing(x), "2130");
        setSlots(x, 4, 6, 2);
        dueText("year, title, author", Checks.listing(x), "3201");
        setSlots(x, 0, 4, 2);
        dueText("none, year, author", Checks.listing(x), "2031");
        setSlots(x, 4, 0, 2);
        dueText("year, none, author", Checks.listing(x), "2031");
        setSlots(x, 4, 2, 0);
        dueText("year, author, none", Checks.listing(x), "2031");
        setSlots(x, 0, 0, 6);
        dueText("none, none, title", Checks.listing(x), "1302");
        setSlots(x, 0, 0, 0);
        dueText("none at all", Checks.listing(x), "0123");
        setSlots(x, 1, 1, 1);
        dueText("none descending is none too", Checks.listing(x), "0123");
    }

    private static void equalByAllSlots() {
        CHECKS.sentence("Works that are equal by all slots are ordered by their work number, "
                + "ascending.");
        CitationFormatter x = Checks.loaded(EIGHT_ALIKE);
        dueText("eight alike", Checks.listing(x), "01234567");
        setSlots(x, 3, 5, 7);
        dueText("eight alike, all slots descending", Checks.listing(x), "01234567");
        x.setYear(7, 99);
        x.setYear(3, 0);
        dueText("one greater, one smaller, descending", Checks.listing(x), "70124563");
        x.setSortSlot(1, 2, 0);
        dueText("one greater, one smaller, ascending", Checks.listing(x), "30124567");
    }

    private static void authorKey() {
        CHECKS.sentence("The key author compares the author lists from the first author on: two "
                + "authors are compared by family name, and if it is equal, by initial; letters are "
                + "compared by their alphabetical order.");
        CitationFormatter x = Checks.loaded("workZa00a;workAz00a;workZz00a;workAa00a;");
        dueText("family, then initial", Checks.listing(x), "3102");
        x = Checks.loaded("workKbAa00a;workKaZz00a;workKaZaAaAa00a;workKaZaAaZz00a;");
        dueText("the first author decides before the second", Checks.listing(x), "2310");
        x = Checks.loaded("workKaKaKaZb00a;workKaKaKaZa00a;workKaKaKaYz00a;workKaKaJzZz00a;");
        dueText("as far as the fourth author", Checks.listing(x), "3210");
        x = Checks.loaded("workBa00a;workAb00a;workAa00a;workBb00a;workMm00a;workLz00a;workNa00a;");
        dueText("letters that are neighbours", Checks.listing(x), "2103546");
    }

    private static void shorterList() {
        CHECKS.sentence("If one list is a beginning of the other, the shorter list is the smaller "
                + "one.");
        CitationFormatter x = Checks.loaded("workKaLbMcNd00a;workKaLbMc00a;workKaLb00a;workKa00a;");
        dueText("four, three, two and one author", Checks.listing(x), "3210");
        x.setSortSlot(0, 1, 1);
        dueText("descending", Checks.listing(x), "0123");
        // Authors of works that are gone are no part of the shorter lists in their places.
        for (String before : new String[] {"workZzZzZzZz00a;", "workAaAaAaAa00a;"}) {
            x = Checks.loaded(before.repeat(4));
            Checks.type(x, "workKaLbMcNd00a;workKaLbMc00a;workKaLb00a;workKa00a;");
            x.loadWorks();
            dueText("in the places of longer lists", Checks.listing(x), "3210");
            Checks.type(x, "workKa00a;workKaLb00a;workKaLbMc00a;workKaLbMcNd00a;");
            x.loadWorks();
            dueText("in their places again", Checks.listing(x), "0123");
        }
        x = Checks.loaded("workKb00a;workKaAaAaAa00a;workKa00a;");
        dueText("the longer one is no greater than another letter", Checks.listing(x), "210");
    }

    private static void yearKey() {
        CHECKS.sentence("The key year compares the years as numbers.");
        CitationFormatter x = Checks.loaded("workKa99a;workKa10a;workKa09a;workKa01a;workKa00a;"
                + "workKa90a;workKa98a;workKa11a;");
        dueText("from 00 to 99", Checks.listing(x), "43217560");
        x.setYear(0, 0);
        dueText("0 beside 0: by work number", Checks.listing(x), "04321756");
        x.setYear(4, 99);
        dueText("99 at the end", Checks.listing(x), "03217564");
    }

    private static void titleKey() {
        CHECKS.sentence("The key title compares the titles alphabetically.");
        CitationFormatter x = Checks.loaded("workKa00z;workKa00y;workKa00m;workKa00b;workKa00a;");
        dueText("title in no slot", Checks.listing(x), "01234");
        x.setSortSlot(2, 3, 0);
        dueText("from a to z", Checks.listing(x), "43210");
        x.setSortSlot(2, 3, 1);
        dueText("from z to a", Checks.listing(x), "01234");
    }

    private static void descending() {
        CHECKS.sentence("In a slot with descending direction the result of the comparison is "
                + "reversed.");
        CitationFormatter x = Checks.loaded("workAa00a;workAa00b;workAa99a;workBa00a;workAaAa00a;");
        setSlots(x, 3, 5, 7);
        dueText("all slots", Checks.listing(x), "34210");
        setSlots(x, 3, 4, 6);
        dueText("slot 0 alone", Checks.listing(x), "34012");
        setSlots(x, 2, 5, 6);
        dueText("slot 1 alone", Checks.listing(x), "20143");
        setSlots(x, 2, 4, 7);
        dueText("slot 2 alone", Checks.listing(x), "10243");
    }

    private static void label() {
        CHECKS.sentence("The label of a work consists of its names part, its year in two digits, and "
                + "its suffix, if it has one, in this order.");
        CitationFormatter x = Checks.loaded("workKaLb00a;workMaNbOc05a;workMaNbOc05b;workPa09a;"
                + "workPb10a;workPb10b;workPc10b;");
        dueText("year 0", labelOf(x, 0), "K&L00");
        dueText("the first suffix", labelOf(x, 1), "M+05a");
        dueText("the second suffix", labelOf(x, 2), "M+05b");
        dueText("no suffix", labelOf(x, 3), "P09");
        dueText("initials and suffix", labelOf(x, 4), "Pb10a");
        dueText("initials alone", labelOf(x, 6), "Pc10");
        x.setYear(3, 99);
        dueText("year 99", labelOf(x, 3), "P99");
        x.setYear(3, 0);
        dueText("year 0 by setYear", labelOf(x, 3), "P00");
        x.setYear(3, 9);
        dueText("year 9 by setYear", labelOf(x, 3), "P09");
    }

    private static void namesPart() {
        CHECKS.sentence("The names part consists of the shown authors, which are always the first "
                + "ones of the author list, joined by the character &.");
        CitationFormatter x = Checks.loaded("workZaYbXcWd00a;workVa00a;");
        dueText("one author has no &", labelOf(x, 1), "V00");
        x.setEtAl(1, 1);
        dueText("the first one", labelOf(x, 0), "Z+00");
        x.setEtAl(1, 2);
        dueText("the first two", labelOf(x, 0), "Z&Y+00");
        x.setEtAl(1, 3);
        dueText("the first three", labelOf(x, 0), "Z&Y&X+00");
        x.setEtAl(0, 1);
        dueText("all four", labelOf(x, 0), "Z&Y&X&W00");
    }

    private static void initialBehindFamily() {
        CHECKS.sentence("Each shown author is written as the family name, followed by the initial if "
                + "the work shows initials.");
        CitationFormatter x = Checks.loaded("workAaZzBb00a;workAzZzBb00a;workAa01a;");
        dueText("one shown", labelOf(x, 0), "Aa+00");
        dueText("one shown of the other", labelOf(x, 1), "Az+00");
        dueText("another label shows none", labelOf(x, 2), "A01");
        x.setEtAl(0, 1);
        dueText("each of three", labelOf(x, 1), "Az&Zz&Bb00");
    }

    private static void plusSign() {
        CHECKS.sentence("If not all authors are shown, the character + follows.");
        String[] want = {"A00", "B&B00", "C&C&C00", "D&D&D+00"};
        CitationFormatter x = Checks.loaded("workAa00a;workBaBa00a;workCaCaCa00a;workDaDaDaDa00a;");
        x.setEtAl(1, 3);
        for (int work = 0; work < 4; work++) {
            dueText("at most three", labelOf(x, work), want[work]);
        }
        String[] first = {"A00", "B+00", "C+00", "D+00"};
        x.setEtAl(1, 1);
        for (int work = 0; work < 4; work++) {
            dueText("at most one", labelOf(x, work), first[work]);
        }
        x = Checks.loaded("workKaLbMc00a;workKaLbMcNd00a;");
        dueText("all are shown in the end", labelOf(x, 0), "K&L&M00");
        dueText("one is hidden", labelOf(x, 1), "K&L&M+00");
    }

    private static void etAlTable() {
        CHECKS.sentence("If etAlMinimum is not 0 and a work has at least etAlMinimum authors, the "
                + "work initially shows its first etAlFirst authors, or all if it has fewer; "
                + "otherwise it shows all authors.");
        String[][] want = {{"1234", "1234", "1234"}, {"1111", "1222", "1233"},
            {"1111", "1222", "1233"}, {"1211", "1222", "1233"}, {"1231", "1232", "1233"},
            {"1234", "1234", "1234"}};
        CitationFormatter x = Checks.loaded("workAa00a;workBaBa00a;workCaCaCa00a;workDaDaDaDa00a;");
        for (int minimum = 0; minimum <= 5; minimum++) {
            for (int first = 1; first <= 3; first++) {
                x.setEtAl(minimum, first);
                dueText("minimum " + minimum + ", first " + first, Checks.shown(x),
                        want[minimum][first - 1]);
            }
        }
    }

    private static void neitherInitialsNorSuffix() {
        CHECKS.sentence("Initially no work shows initials, and no work has a suffix.");
        CitationFormatter x = Checks.loaded("workKa07a;workKb07a;workKb07a;workLa07a;");
        x.setDisambiguation(0);
        dueText("without steps, initials", Checks.shown(x), "1111");
        dueText("without steps, suffixes", Checks.suffixes(x), "----");
        x = Checks.loaded("workKa07a;workLa07a;workKa08a;workKaLa07a;");
        dueText("with steps but no group, initials", Checks.shown(x), "1112");
        dueText("with steps but no group, suffixes", Checks.suffixes(x), "----");
    }

    private static void eachSetOfSteps() {
        CHECKS.sentence("Three steps can be enabled separately; initially all are enabled.");
        CitationFormatter x = Checks.loaded("workKaLbMc07a;workKaLbNd07b;workPa08a;workPb08a;"
                + "workQa09a;workQa09b;");
        String[] shown = {"111111", "331111", "111i1i11", "331i1i11"};
        String[] suffixes = {"ababab", "--abab", "ab--ab", "----ab"};
        dueText("initially, shown", Checks.shown(x), shown[3]);
        dueText("initially, suffixes", Checks.suffixes(x), suffixes[3]);
        for (int steps = 0; steps <= 7; steps++) {
            x.setDisambiguation(steps);
            dueText("steps " + steps + ", shown", Checks.shown(x), shown[steps & 3]);
            dueText("steps " + steps + ", suffixes", Checks.suffixes(x),
                    steps < 4 ? "------" : suffixes[steps & 3]);
        }
    }

    private static void stepsInOrder() {
        CHECKS.sentence("They are performed in the order given here.");
        CitationFormatter x = Checks.loaded("workKaLaMa07a;workKbPaMa07a;");
        dueText("names are enough: no initials", Checks.shown(x), "22");
        dueText("names are enough: no suffixes", Checks.suffixes(x), "--");
        x = Checks.loaded("workKa07a;workKb07a;");
        dueText("initials are enough", Checks.shown(x), "1i1i");
        dueText("initials are enough: no suffixes", Checks.suffixes(x), "--");
        x = Checks.loaded("workKaLaMa07a;workKaLbMa07a;workKaPaMa07a;");
        dueText("names for three, then initials for two", Checks.shown(x), "2i2i2");
    }

    private static void groupsOfTwoOrMore() {
        CHECKS.sentence("A group is a set of two or more works that have the same label, and that "
                + "contains all works with this label.");
        CitationFormatter x = Checks.loaded("workKaLaMa07a;");
        dueText("one work is no group, names", Checks.shown(x), "1");
        dueText("one work is no group, suffixes", Checks.suffixes(x), "-");
        x = Checks.loaded("workKa07a;workKa07a;");
        dueText("two works", Checks.suffixes(x), "ab");
        x.setYear(1, 8);
        dueText("two labels", Checks.suffixes(x), "--");
        x = Checks.loaded(EIGHT_ALIKE);
        dueText("all eight", Checks.suffixes(x), "abcdefgh");
        x = Checks.loaded("workKa07a;workLa07a;workKa07a;workLa07a;workKa07a;workMa07a;");
        dueText("a group of three, one of two", Checks.suffixes(x), "aabbc-");
    }

    private static void groupsAreFormedAnewForEachStep() {
        CHECKS.sentence("The groups of a step are formed from the labels as they are before the "
                + "step.");
        CitationFormatter x = Checks.loaded("workKaLaMa07a;workKaLaMa07a;workKaPaMa07a;workKbPbMa07a;");
        dueText("names part one group in two, initials one of them", Checks.shown(x), "222i2i");
        dueText("suffixes for the other", Checks.suffixes(x), "ab--");
        x.setDisambiguation(6);
        dueText("without names, initials for all", Checks.shown(x), "1i1i1i1i");
        dueText("and suffixes for those that stay alike", Checks.suffixes(x), "abc-");
    }

    private static void addNames() {
        CHECKS.sentence("Step 1 (add names): for each group, each n from etAlFirst to 4 is tried: "
                + "every work of the group shows n authors, or all of its authors if it has fewer "
                + "than n, but no fewer authors than it shows initially.");
        CitationFormatter x = Checks.loaded("workKaLaMaNa07a;workKaLaMaOa07a;");
        dueText("four are tried", Checks.shown(x), "44");
        x = Checks.loaded("workKaLaMa07a;workKaLaMaNa07a;workKaLaMaOa07a;");
        dueText("all of three where four are tried", Checks.shown(x), "344");
        x = Checks.loaded("workKaLaMaNa07a;workKaLaMaNa07a;");
        for (int first = 1; first <= 3; first++) {
            x.setEtAl(4, first);
            dueText("from etAlFirst on", Checks.shown(x), "" + first + first);
        }
        for (int minimum : new int[] {0, 5}) {
            x.setEtAl(minimum, 1);
            dueText("no fewer than initially", Checks.shown(x), "44");
        }
        x = Checks.loaded("workKaLa07a;workKaLa07a;");
        dueText("no fewer than two initially", Checks.shown(x), "22");
        x.setEtAl(2, 3);
        dueText("all of two, where three are the least", Checks.shown(x), "22");
        x.setEtAl(2, 1);
        dueText("one, if one is enough", Checks.shown(x), "11");
        x = Checks.loaded("workKaLaMa07a;workKaPaMa07a;workKaLaMa08a;workKaLaNa08a;");
        dueText("for each group its own n", Checks.shown(x), "2233");
    }

    private static void addNamesTakesTheBest() {
        CHECKS.sentence("The n that gives the greatest number of different labels among the works of "
                + "the group is used; of several such n the smallest one.");
        CitationFormatter x = Checks.loaded("workKaLaMaNa07a;workKaPaQaRa07a;");
        dueText("two, since three and four are no better", Checks.shown(x), "22");
        x = Checks.loaded("workKaLaMaNa07a;workKaLaQaRa07a;");
        dueText("three, since four are no better", Checks.shown(x), "33");
        x = Checks.loaded("workKaLaMaNa07a;workKaLaMaOa07a;workKaLaPaNa07a;workKaQaMaNa07a;");
        dueText("two tell two apart, three three, four four", Checks.shown(x), "4444");
        x = Checks.loaded("workKaLaMaNa07a;workKaLaMaNa07a;workKaLaPaNa07a;workKaQaMaNa07a;");
        dueText("four are no better than three", Checks.shown(x), "3333");
        x = Checks.loaded("workKaLaMaNa07a;workKaLaMaNa07b;");
        dueText("none is better than one", Checks.shown(x), "11");
        x = Checks.loaded("workKaLaMa07a;workKaLa07a;workKa07a;");
        x.setEtAl(1, 1);
        // K07 hides none and is no member of the group K+07 of the other two.
        dueText("a hidden author tells apart too", Checks.shown(x), "221");
    }

    private static void addInitials() {
        CHECKS.sentence("Step 2 (add initials): for each group, if the works of the group would have "
                + "at least two different labels if all of them showed initials, all of them show "
                + "initials.");
        CitationFormatter x = Checks.loaded("workKa07a;workKa07a;");
        dueText("one label of two works", Checks.shown(x), "11");
        x = Checks.loaded("workKa07a;workKb07a;");
        dueText("two labels of two works", Checks.shown(x), "1i1i");
        x = Checks.loaded("workKa07a;workKa07a;workKa07a;workKa07a;workKa07a;workKa07a;workKa07a;"
                + "workKb07a;");
        dueText("two labels of eight works", Checks.shown(x), "1i".repeat(8));
        dueText("seven stay alike", Checks.suffixes(x), "abcdefg-");
        x = Checks.loaded("workKaLaMaNa07a;workKaLaMaNb07a;");
        dueText("the initial of an author that is not shown", Checks.shown(x), "11");
        x.setEtAl(0, 1);
        dueText("the initial of the fourth author", Checks.shown(x), "4i4i");
        x = Checks.loaded("workKa07a;workKb07a;workLa07a;workLa07a;workKa08a;");
        dueText("for each group its own", Checks.shown(x), "1i1i111");
    }

    private static void addSuffixes() {
        CHECKS.sentence("Step 3 (add suffixes): in each group, the works get the suffixes a, b, c "
                + "and so on, in bibliography order.");
        CitationFormatter x = Checks.loaded("workKa07h;workKa07g;workKa07f;workKa07e;workKa07d;"
                + "workKa07c;workKa07b;workKa07a;");
        dueText("by work number", Checks.suffixes(x), "abcdefgh");
        x.setSortSlot(2, 3, 0);
        dueText("by title", Checks.suffixes(x), "hgfedcba");
        x.setSortSlot(2, 3, 1);
        dueText("by title descending", Checks.suffixes(x), "abcdefgh");
        x.setStyle(1);
        x.setNumbering(1);
        x.beginCitation(7);
        dueText("not by the numbers", Checks.suffixes(x), "abcdefgh");
        x = Checks.loaded("workLa07a;workKa07a;workLa07a;workKa07a;");
        dueText("from a on in each group", Checks.suffixes(x), "aabb");
    }

    private static void workCount() {
        CHECKS.sentence("Returns the number of works.");
        for (int works = 0; works <= 8; works++) {
            CitationFormatter x = Checks.loaded("workKa07a;".repeat(works));
            due("loaded", x.workCount(), works);
            due("remove the first", x.removeWork(0), works == 0 ? -1 : 0);
            due("left", x.workCount(), Math.max(0, works - 1));
        }
    }

    private static void authorCount() {
        CHECKS.sentence("Returns how many authors it has; INVALID_ARGUMENT if there is no such "
                + "work.");
        for (int works = 0; works <= 8; works++) {
            StringBuilder text = new StringBuilder();
            for (int work = 0; work < works; work++) {
                text.append("work").append("Ka".repeat(1 + work % 4)).append("07a;");
            }
            CitationFormatter x = Checks.loaded(text.toString());
            dueNone("authorCount", x::authorCount, works);
            for (int work = 0; work < works; work++) {
                due("work " + work, x.authorCount(work), 1 + work % 4);
            }
        }
    }

    private static void citationCount() {
        CHECKS.sentence("Returns the number of citations.");
        CitationFormatter x = Checks.loaded("workKa07a;");
        for (int citations = 0; citations <= 10; citations++) {
            due("citations", x.citationCount(), citations);
            x.beginCitation(0);
        }
        due("an eleventh was refused", x.citationCount(), 10);
        for (int citations = 9; citations >= 0; citations--) {
            x.removeCitation(0);
            due("left", x.citationCount(), citations);
        }
    }

    private static void citationSize() {
        CHECKS.sentence("Returns how many works it cites; INVALID_ARGUMENT if there is no such "
                + "citation.");
        CitationFormatter x = Checks.loaded(EIGHT_ALIKE);
        for (int citations = 0; citations <= 10; citations++) {
            dueNone("citationSize", x::citationSize, citations);
            x.beginCitation(0);
            for (int work = 1; work <= citations % 5; work++) {
                x.addToCitation(work);
            }
            for (int citation = 0; citation <= citations && citation < 9; citation++) {
                due("size", x.citationSize(citation), 1 + citation % 5);
            }
        }
    }

    private static void bibliographyAt() {
        CHECKS.sentence("Returns the work whose entry is at this position of the bibliography (see "
                + "the section Bibliography); INVALID_ARGUMENT if there is no such position.");
        for (int works = 0; works <= 8; works++) {
            CitationFormatter x = Checks.loaded("workKa07a;".repeat(works));
            for (int style = 0; style <= 2; style++) {
                x.setStyle(style);
                dueNone("bibliographyAt", x::bibliographyAt, works);
                dueText("alike", Checks.listing(x), "01234567".substring(0, works));
            }
        }
        CitationFormatter x = Checks.loaded("workCa07a;workBa07a;workAa07a;");
        x.setNumbering(1);
        x.beginCitation(1);
        dueText("author-year", Checks.listing(x), "210");
        x.setStyle(2);
        dueText("note", Checks.listing(x), "210");
        x.setStyle(1);
        dueText("numeric", Checks.listing(x), "120");
    }

    private static void numberOf() {
        CHECKS.sentence("Returns its number in the numeric style, whatever the present style is; "
                + "INVALID_ARGUMENT if there is no such work.");
        for (int works = 0; works <= 8; works++) {
            CitationFormatter x = Checks.loaded("workKa07a;".repeat(works));
            dueNone("numberOf", x::numberOf, works);
            for (int style = 0; style <= 2; style++) {
                x.setStyle(style);
                dueText("from 1 on", Checks.numbers(x), "12345678".substring(0, works));
            }
            x.setNumbering(1);
            x.beginCitation(works - 1);
            for (int style = 0; style <= 2; style++) {
                x.setStyle(style);
                due("the cited one", x.numberOf(works - 1), works == 0 ? -1 : 1);
                due("the first one", x.numberOf(0), works == 0 ? -1 : works == 1 ? 1 : 2);
            }
        }
    }

    private static void shownAuthors() {
        CHECKS.sentence("Returns how many authors its label shows; INVALID_ARGUMENT if there is no "
                + "such work.");
        for (int works = 0; works <= 8; works++) {
            CitationFormatter x = Checks.loaded("workKaKaKa07a;".repeat(works));
            dueNone("shownAuthors", x::shownAuthors, works);
            dueText("one of three", Checks.shown(x), "1".repeat(works));
            x.setEtAl(0, 1);
            dueText("all of three", Checks.shown(x), "3".repeat(works));
        }
    }

    private static void showsInitials() {
        CHECKS.sentence("Returns 1 if its label shows initials, otherwise 0; INVALID_ARGUMENT if "
                + "there is no such work.");
        CitationFormatter none = new CitationFormatter();
        dueNone("showsInitials", none::showsInitials, 0);
        CitationFormatter x = Checks.loaded("workKa07a;workLa07a;workKb07a;");
        dueNone("showsInitials", x::showsInitials, 3);
        due("work 0", x.showsInitials(0), 1);
        due("work 1", x.showsInitials(1), 0);
        due("work 2", x.showsInitials(2), 1);
        CitationFormatter eight = Checks.loaded(EIGHT_ALIKE);
        dueNone("showsInitials", eight::showsInitials, 8);
    }

    private static void suffixOf() {
        CHECKS.sentence("Returns the code of the suffix character of its label; NONE if it has no "
                + "suffix; INVALID_ARGUMENT if there is no such work.");
        CitationFormatter none = new CitationFormatter();
        dueNone("suffixOf", none::suffixOf, 0);
        CitationFormatter x = Checks.loaded("workLa07a;" + "workKa07a;".repeat(7));
        dueNone("suffixOf", x::suffixOf, 8);
        due("no suffix", x.suffixOf(0), -9);
        for (int work = 1; work < 8; work++) {
            due("suffix", x.suffixOf(work), 'a' + work - 1);
        }
        CitationFormatter eight = Checks.loaded(EIGHT_ALIKE);
        due("the first of eight", eight.suffixOf(0), 97);
        due("the last of eight", eight.suffixOf(7), 104);
    }

    private static void ambiguousWith() {
        CHECKS.sentence("Returns a bit set of the other works that have the same label, bit w for "
                + "work w; INVALID_ARGUMENT if there is no such work.");
        CitationFormatter none = new CitationFormatter();
        dueNone("ambiguousWith", none::ambiguousWith, 0);
        CitationFormatter x = Checks.loaded(EIGHT_ALIKE);
        dueNone("ambiguousWith", x::ambiguousWith, 8);
        for (int work = 0; work < 8; work++) {
            due("suffixes tell apart", x.ambiguousWith(work), 0);
        }
        x.setDisambiguation(0);
        for (int work = 0; work < 8; work++) {
            due("all the others", x.ambiguousWith(work), 255 - (1 << work));
        }
        x.setYear(7, 8);
        due("not the last", x.ambiguousWith(0), 126);
        due("the last is alone", x.ambiguousWith(7), 0);
        CitationFormatter one = Checks.loaded("workKa07a;");
        due("one work", one.ambiguousWith(0), 0);
        for (String author : new String[] {"Aa", "Zz"}) {
            StringBuilder text = new StringBuilder();
            for (int authors = 1; authors <= 4; authors++) {
                text.append("work").append(author.repeat(authors)).append("07a;");
            }
            CitationFormatter more = Checks.loaded(text.toString());
            more.setDisambiguation(0);
            more.setEtAl(0, 1);
            for (int work = 0; work < 4; work++) {
                due("the same author, once or more often", more.ambiguousWith(work), 0);
            }
            more.setEtAl(1, 1);
            due("one is shown, and none is hidden", more.ambiguousWith(0), 0);
            due("one is shown, and some are hidden", more.ambiguousWith(1), 0b1100);
        }
    }

    /** Two works that differ in one letter alone, each two letters in each place of two authors. */
    private static void allLettersAreDifferent() {
        CHECKS.sentence("Returns a bit set of the other works that have the same label, bit w for "
                + "work w; INVALID_ARGUMENT if there is no such work.");
        char[] authors = "AaAa".toCharArray();
        for (int place = 0; place < 4; place++) {
            for (int other = 0; other < 26; other++) {
                authors[3 - place] = (char) ((place % 2 == 0 ? 'a' : 'A') + other);
                dueDifferent(authors, place);
            }
            authors[3 - place] = place % 2 == 0 ? 'z' : 'Z';
        }
        for (char one = 'A'; one <= 'Z'; one++) {
            for (char two = 'A'; two < one; two++) {
                CitationFormatter x = Checks.loaded("work" + one + "a07a;work" + one + "z07a;work"
                        + two + "a07a;work" + two + "z07a;");
                dueText("initials of both", Checks.shown(x), "1i1i1i1i");
                dueText("no suffixes for " + one + " and " + two, Checks.suffixes(x), "----");
            }
        }
    }

    private static void dueDifferent(char[] authors, int place) {
        char least = place % 2 == 0 ? 'A' : 'a';
        char[] one = authors.clone();
        char[] two = authors.clone();
        for (int a = 0; a < 26; a++) {
            for (int b = 0; b < a; b++) {
                one[place] = (char) (least + a);
                two[place] = (char) (least + b);
                String text = "work" + new String(one) + "07a;work" + new String(two) + "07a;";
                CitationFormatter x = Checks.loaded(text);
                x.setDisambiguation(2);
                due(text, x.ambiguousWith(0), 0);
                due(text + " shows initials", x.showsInitials(1), place % 2);
            }
        }
    }
}
