import java.util.Random;

/**
 * Random runs of calls, each answer compared with that of the reference. The runs are the same each
 * time; with two arguments, the first run and the number of runs, others are made.
 */
public final class RandomRunsTest {
    private static final int RUNS = 400;
    private static final int CALLS = 60;

    private final Checks checks;
    private final Random random;
    private final CitationFormatter x = new CitationFormatter();
    private final ReferenceFormatter r = new ReferenceFormatter();
    private final int run;

    private RandomRunsTest(Checks checks, int run) {
        this.checks = checks;
        this.run = run;
        random = new Random(run);
    }

    public static void main(String[] args) {
        Checks checks = new Checks();
        int first = args.length == 2 ? Integer.parseInt(args[0]) : 0;
        int runs = args.length == 2 ? Integer.parseInt(args[1]) : RUNS;
        for (int run = first; run < first + runs; run++) {
            new RandomRunsTest(checks, run).play();
        }
        checks.close("RandomRunsTest");
    }

    private void play() {
        for (int call = 0; call < CALLS; call++) {
            if (call == 0 || random.nextInt(25) == 0) {
                load();
            }
            oneCall();
            if (random.nextInt(3) == 0) {
                inspect();
            }
        }
    }

    private void due(String call, int got, int want) {
        checks.due("run " + run + ": " + call, got, want);
    }

    private int near(int least, int greatest) {
        return random.nextInt(12) == 0
                ? (random.nextBoolean() ? least - 1 : greatest + 1)
                : least + random.nextInt(greatest - least + 1);
    }

    private int anyWork() {
        return near(0, Math.max(0, r.workCount() - 1));
    }

    private void type(String text) {
        for (int i = 0; i < text.length(); i++) {
            due("appendCharacter", x.appendCharacter(text.charAt(i)), r.appendCharacter(text.charAt(i)));
        }
    }

    private void load() {
        due("clearText", x.clearText(), r.clearText());
        type(worksText());
        due("loadWorks", x.loadWorks(), r.loadWorks());
        inspect();
    }

    private String worksText() {
        int letters = 1 + random.nextInt(3);
        int years = 1 + random.nextInt(2);
        StringBuilder text = new StringBuilder();
        int works = random.nextInt(9) + (random.nextInt(20) == 0 ? 1 : 0);
        for (int i = 0; i < works; i++) {
            text.append("work");
            int authors = 1 + random.nextInt(4) + (random.nextInt(80) == 0 ? 1 : 0);
            for (int a = 0; a < authors; a++) {
                // The first authors are mostly alike, so that labels collide.
                int spread = a == 0 ? 1 + random.nextInt(2) : letters;
                text.append((char) ('K' + random.nextInt(spread)));
                text.append((char) ('a' + random.nextInt(random.nextInt(letters) + 1)));
            }
            text.append(random.nextInt(10)).append(random.nextInt(10));
            if (random.nextInt(6) != 0) {
                text.setLength(text.length() - 2);
                text.append("0").append(random.nextInt(years));
            }
            text.append((char) ('a' + random.nextInt(3))).append(';');
        }
        if (random.nextInt(4) == 0) {
            spoil(text, "workKLab019; ;-,[]A\n" + (char) 255);
        }
        return text.toString();
    }

    private void spoil(StringBuilder text, String signs) {
        int times = 1 + random.nextInt(3);
        for (int i = 0; i < times; i++) {
            int at = random.nextInt(text.length() + 1);
            char sign = signs.charAt(random.nextInt(signs.length()));
            switch (random.nextInt(4)) {
                case 0 -> text.insert(at, sign);
                case 1 -> text.insert(at, ' ');
                case 2 -> text.delete(at, Math.min(text.length(), at + 1));
                default -> text.setLength(at);
            }
        }
    }

    private String numbersText() {
        StringBuilder text = new StringBuilder("[");
        int items = 1 + random.nextInt(4);
        for (int i = 0; i < items; i++) {
            int number = 1 + random.nextInt(Math.max(1, r.workCount()));
            text.append(i == 0 ? "" : ",").append(number);
            if (random.nextInt(3) == 0) {
                text.append("-").append(number + random.nextInt(3));
            }
        }
        text.append("]");
        if (random.nextInt(3) == 0) {
            spoil(text, "0123456789[],,--w");
        }
        return text.toString();
    }

    private void expand() {
        if (random.nextInt(4) != 0) {
            due("clearText", x.clearText(), r.clearText());
        }
        type(numbersText());
        due("expandNumbers", x.expandNumbers(), r.expandNumbers());
    }

    private void oneCall() {
        int a = anyWork();
        switch (random.nextInt(24)) {
            case 0 -> {
                int code = near(0, 255);
                due("appendCharacter(" + code + ")", x.appendCharacter(code), r.appendCharacter(code));
            }
            case 1 -> expand();
            case 2 -> due("removeWork(" + a + ")", x.removeWork(a), r.removeWork(a));
            case 3 -> {
                int year = random.nextBoolean() ? near(0, 99) : near(0, 2);
                due("setYear(" + a + ", " + year + ")", x.setYear(a, year), r.setYear(a, year));
            }
            case 4 -> {
                int style = near(0, 2);
                due("setStyle(" + style + ")", x.setStyle(style), r.setStyle(style));
            }
            case 5, 6 -> {
                int m = near(0, 5);
                int f = near(1, 3);
                due("setEtAl(" + m + ", " + f + ")", x.setEtAl(m, f), r.setEtAl(m, f));
            }
            case 7 -> {
                int steps = near(0, 7);
                due("setDisambiguation(" + steps + ")", x.setDisambiguation(steps),
                        r.setDisambiguation(steps));
            }
            case 8 -> {
                int level = near(0, 2);
                due("setCollapseLevel(" + level + ")", x.setCollapseLevel(level),
                        r.setCollapseLevel(level));
            }
            case 9, 10 -> {
                int s = near(0, 2);
                int k = near(0, 3);
                int d = near(0, 1);
                due("setSortSlot(" + s + ", " + k + ", " + d + ")", x.setSortSlot(s, k, d),
                        r.setSortSlot(s, k, d));
            }
            case 11 -> {
                int n = near(0, 1);
                due("setNumbering(" + n + ")", x.setNumbering(n), r.setNumbering(n));
            }
            case 12 -> {
                int o = near(0, 1);
                due("setCiteOrder(" + o + ")", x.setCiteOrder(o), r.setCiteOrder(o));
            }
            case 13, 14, 15 ->
                due("beginCitation(" + a + ")", x.beginCitation(a), r.beginCitation(a));
            case 16, 17, 18, 19, 20 ->
                due("addToCitation(" + a + ")", x.addToCitation(a), r.addToCitation(a));
            case 21 -> {
                int c = near(0, Math.max(0, r.citationCount() - 1));
                due("removeCitation(" + c + ")", x.removeCitation(c), r.removeCitation(c));
            }
            default -> due("undo()", x.undo(), r.undo());
        }
    }

    private void inspect() {
        due("workCount", x.workCount(), r.workCount());
        due("citationCount", x.citationCount(), r.citationCount());
        for (int w = -1; w <= r.workCount(); w++) {
            due("authorCount(" + w + ")", x.authorCount(w), r.authorCount(w));
            due("bibliographyAt(" + w + ")", x.bibliographyAt(w), r.bibliographyAt(w));
            due("numberOf(" + w + ")", x.numberOf(w), r.numberOf(w));
            due("shownAuthors(" + w + ")", x.shownAuthors(w), r.shownAuthors(w));
            due("showsInitials(" + w + ")", x.showsInitials(w), r.showsInitials(w));
            due("suffixOf(" + w + ")", x.suffixOf(w), r.suffixOf(w));
            due("ambiguousWith(" + w + ")", x.ambiguousWith(w), r.ambiguousWith(w));
            for (int i = -1, code = 0; code >= 0 || i < 1; i++) {
                code = r.entryCharacter(w, i);
                due("entryCharacter(" + w + ", " + i + ")", x.entryCharacter(w, i), code);
            }
        }
        for (int c = -1; c <= r.citationCount(); c++) {
            due("citationSize(" + c + ")", x.citationSize(c), r.citationSize(c));
            due("renderedLength(" + c + ")", x.renderedLength(c), r.renderedLength(c));
            for (int i = -1, code = 0; code >= 0 || i < 1; i++) {
                code = r.renderedCharacter(c, i);
                due("renderedCharacter(" + c + ", " + i + ")", x.renderedCharacter(c, i), code);
            }
        }
    }
}
