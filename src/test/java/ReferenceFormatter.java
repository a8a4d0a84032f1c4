import java.util.ArrayDeque;
import java.util.ArrayList;
import java.util.Arrays;
import java.util.Comparator;
import java.util.Deque;
import java.util.HashSet;
import java.util.LinkedHashMap;
import java.util.List;
import java.util.Map;
import java.util.Set;
import java.util.regex.Matcher;
import java.util.regex.Pattern;
import java.util.stream.Collectors;

/**
 * A second reading of the document, for the random runs: it works with texts and the Java library
 * where the class works with arrays of numbers, so that a slip in one is seen against the other.
 */
final class ReferenceFormatter {
    private static final int BAD = -1;
    private static final int STATE = -2;
    private static final int LIMIT = -3;
    private static final int ABSENT = -9;
    private static final Pattern LEXEME =
            Pattern.compile("[a-z]+|[A-Z][a-z]|[0-9]+|[^ ]", Pattern.DOTALL);

    private record Work(List<String> authors, int year, char title) {
        String yearText() {
            return String.format("%02d", year);
        }

        String allAuthors() {
            return String.join("&", authors);
        }
    }

    private record Shape(int shown, boolean initials, String suffix) {
    }

    private static final class Held {
        List<Work> works = new ArrayList<>();
        List<List<Integer>> citations = new ArrayList<>();
        int style = 0;
        int minimum = 3;
        int first = 1;
        int steps = 7;
        int collapse = 0;
        int[] slots = {2, 4, 0};
        int numbering = 0;
        int citeOrder = 0;

        Held copy() {
            Held c = new Held();
            c.works = new ArrayList<>(works);
            for (List<Integer> citation : citations) {
                c.citations.add(new ArrayList<>(citation));
            }
            c.style = style;
            c.minimum = minimum;
            c.first = first;
            c.steps = steps;
            c.collapse = collapse;
            c.slots = slots.clone();
            c.numbering = numbering;
            c.citeOrder = citeOrder;
            return c;
        }
    }

    private String text = "";
    private Held held = new Held();
    private final Deque<Held> past = new ArrayDeque<>();

    private void edit() {
        past.push(held.copy());
        if (past.size() > 8) {
            past.removeLast();
        }
    }

    private boolean isWork(int work) {
        return 0 <= work && work < held.works.size();
    }

    private boolean isCitation(int citation) {
        return 0 <= citation && citation < held.citations.size();
    }

    int appendCharacter(int character) {
        if (character < 0 || character > 255) {
            return BAD;
        }
        if (text.length() == 150) {
            return LIMIT;
        }
        text += (char) character;
        return text.length();
    }

    int clearText() {
        int before = text.length();
        text = "";
        return before;
    }

    int loadWorks() {
        List<Work> read = new ArrayList<>();
        List<String> open = null;
        Matcher m = LEXEME.matcher(text);
        while (m.find()) {
            String lexeme = m.group();
            if (open == null) {
                if (!lexeme.equals("work") || read.size() == 8) {
                    return -10 - m.start();
                }
                open = new ArrayList<>();
                continue;
            }
            String soFar = String.join(" ", open);
            boolean allowed;
            if (soFar.matches(".*[0-9] [a-z]")) {
                allowed = lexeme.equals(";");
            } else if (soFar.matches(".*[0-9]")) {
                allowed = lexeme.matches("[a-z]");
            } else {
                allowed = lexeme.matches("[A-Z][a-z]") && open.size() < 4
                        || lexeme.matches("[0-9][0-9]") && !open.isEmpty();
            }
            if (!allowed) {
                return -10 - m.start();
            }
            if (lexeme.equals(";")) {
                int n = open.size();
                read.add(new Work(List.copyOf(open.subList(0, n - 2)),
                        Integer.parseInt(open.get(n - 2)), open.get(n - 1).charAt(0)));
                open = null;
            } else {
                open.add(lexeme);
            }
        }
        if (open != null) {
            return -10 - text.length();
        }
        edit();
        held.works = read;
        held.citations = new ArrayList<>();
        text = "";
        return read.size();
    }

    int expandNumbers() {
        int greatest = held.works.size();
        String digit = greatest == 0 ? "(?!)" : "[1-" + greatest + "]";
        String item = digit + "(-" + digit + ")?";
        String whole = "\\[" + item + "(," + item + ")*\\]";
        String begun = "(\\[(" + item + ",)*(" + digit + "(-" + digit + "?)?)?)|(" + whole + ")";
        for (int size = 1; size <= text.length(); size++) {
            String start = text.substring(0, size);
            if (!start.matches(begun) || !ascending(start)) {
                return -10 - (size - 1);
            }
        }
        if (!text.matches(whole)) {
            return -10 - text.length();
        }
        int bits = 0;
        List<Integer> byNumber = byNumber();
        for (String one : text.substring(1, text.length() - 1).split(",")) {
            int low = one.charAt(0) - '0';
            int high = one.charAt(one.length() - 1) - '0';
            for (int n = low; n <= high; n++) {
                bits |= 1 << byNumber.get(n - 1);
            }
        }
        text = "";
        return bits;
    }

    private static boolean ascending(String text) {
        Matcher m = Pattern.compile("([0-9])-([0-9])").matcher(text);
        while (m.find()) {
            if (m.group(1).compareTo(m.group(2)) >= 0) {
                return false;
            }
        }
        return true;
    }

    int removeWork(int work) {
        if (!isWork(work)) {
            return BAD;
        }
        edit();
        held.works.remove(work);
        List<List<Integer>> left = new ArrayList<>();
        for (List<Integer> citation : held.citations) {
            List<Integer> kept = citation.stream().filter(w -> w != work)
                    .map(w -> w > work ? w - 1 : w).collect(Collectors.toCollection(ArrayList::new));
            if (!kept.isEmpty()) {
                left.add(kept);
            }
        }
        held.citations = left;
        return left.size();
    }

    int setYear(int work, int year) {
        if (!isWork(work) || year < 0 || year > 99) {
            return BAD;
        }
        edit();
        Work old = held.works.get(work);
        held.works.set(work, new Work(old.authors(), year, old.title()));
        return old.year();
    }

    int setStyle(int style) {
        if (style < 0 || style > 2) {
            return BAD;
        }
        edit();
        int old = held.style;
        held.style = style;
        return old;
    }

    int setEtAl(int minimum, int first) {
        if (minimum < 0 || minimum > 5 || first < 1 || first > 3) {
            return BAD;
        }
        edit();
        int old = held.minimum * 10 + held.first;
        held.minimum = minimum;
        held.first = first;
        return old;
    }

    int setDisambiguation(int steps) {
        if (steps < 0 || steps > 7) {
            return BAD;
        }
        edit();
        int old = held.steps;
        held.steps = steps;
        return old;
    }

    int setCollapseLevel(int level) {
        if (level < 0 || level > 2) {
            return BAD;
        }
        edit();
        int old = held.collapse;
        held.collapse = level;
        return old;
    }

    int setSortSlot(int slot, int key, int direction) {
        if (slot < 0 || slot > 2 || key < 0 || key > 3 || direction < 0 || direction > 1) {
            return BAD;
        }
        edit();
        int old = held.slots[slot];
        held.slots[slot] = 2 * key + direction;
        return old;
    }

    int setNumbering(int numbering) {
        if (numbering < 0 || numbering > 1) {
            return BAD;
        }
        edit();
        int old = held.numbering;
        held.numbering = numbering;
        return old;
    }

    int setCiteOrder(int order) {
        if (order < 0 || order > 1) {
            return BAD;
        }
        edit();
        int old = held.citeOrder;
        held.citeOrder = order;
        return old;
    }

    int beginCitation(int work) {
        if (!isWork(work)) {
            return BAD;
        }
        if (held.citations.size() == 10) {
            return LIMIT;
        }
        edit();
        held.citations.add(new ArrayList<>(List.of(work)));
        return held.citations.size() - 1;
    }

    int addToCitation(int work) {
        if (!isWork(work)) {
            return BAD;
        }
        if (held.citations.isEmpty()) {
            return STATE;
        }
        List<Integer> last = held.citations.get(held.citations.size() - 1);
        if (last.contains(work)) {
            return STATE;
        }
        if (last.size() == 5) {
            return LIMIT;
        }
        edit();
        held.citations.get(held.citations.size() - 1).add(work);
        return last.size();
    }

    int removeCitation(int citation) {
        if (!isCitation(citation)) {
            return BAD;
        }
        edit();
        return held.citations.remove(citation).size();
    }

    int undo() {
        if (past.isEmpty()) {
            return STATE;
        }
        held = past.pop();
        return past.size();
    }

    int workCount() {
        return held.works.size();
    }

    int authorCount(int work) {
        return isWork(work) ? held.works.get(work).authors().size() : BAD;
    }

    int citationCount() {
        return held.citations.size();
    }

    int citationSize(int citation) {
        return isCitation(citation) ? held.citations.get(citation).size() : BAD;
    }

    int bibliographyAt(int position) {
        return isWork(position) ? listing().get(position) : BAD;
    }

    int numberOf(int work) {
        return isWork(work) ? byNumber().indexOf(work) + 1 : BAD;
    }

    int shownAuthors(int work) {
        return isWork(work) ? shapes()[work].shown() : BAD;
    }

    int showsInitials(int work) {
        return !isWork(work) ? BAD : shapes()[work].initials() ? 1 : 0;
    }

    int suffixOf(int work) {
        if (!isWork(work)) {
            return BAD;
        }
        String suffix = shapes()[work].suffix();
        return suffix.isEmpty() ? ABSENT : suffix.charAt(0);
    }

    int ambiguousWith(int work) {
        if (!isWork(work)) {
            return BAD;
        }
        Shape[] shapes = shapes();
        int bits = 0;
        for (int other = 0; other < held.works.size(); other++) {
            if (other != work && label(other, shapes[other]).equals(label(work, shapes[work]))) {
                bits += 1 << other;
            }
        }
        return bits;
    }

    int renderedLength(int citation) {
        return isCitation(citation) ? rendered(citation).length() : BAD;
    }

    int renderedCharacter(int citation, int index) {
        return !isCitation(citation) || index < 0 ? BAD : codeAt(rendered(citation), index);
    }

    int entryCharacter(int position, int index) {
        return !isWork(position) || index < 0 ? BAD : codeAt(entry(listing().get(position)), index);
    }

    private static int codeAt(String line, int index) {
        return index < line.length() ? line.charAt(index) : ABSENT;
    }

    private List<Integer> bibliographyOrder() {
        List<Integer> order = new ArrayList<>();
        for (int work = 0; work < held.works.size(); work++) {
            order.add(work);
        }
        Comparator<Integer> by = (a, b) -> 0;
        for (int slot : held.slots) {
            Comparator<Integer> next = switch (slot / 2) {
                // Authors have two letters each, so the joined texts compare as the lists do.
                case 1 -> Comparator.comparing(w -> String.join("", held.works.get(w).authors()));
                case 2 -> Comparator.comparing(w -> held.works.get(w).year());
                case 3 -> Comparator.comparing(w -> held.works.get(w).title());
                default -> (a, b) -> 0;
            };
            by = by.thenComparing(slot % 2 == 1 ? next.reversed() : next);
        }
        order.sort(by.thenComparing(Comparator.naturalOrder()));
        return order;
    }

    private List<Integer> byNumber() {
        List<Integer> all = new ArrayList<>();
        if (held.numbering == 1) {
            held.citations.forEach(all::addAll);
        }
        all.addAll(bibliographyOrder());
        return all.stream().distinct().collect(Collectors.toList());
    }

    private List<Integer> listing() {
        return held.style == 1 ? byNumber() : bibliographyOrder();
    }

    private String names(int work, Shape shape) {
        List<String> authors = held.works.get(work).authors();
        String line = authors.subList(0, shape.shown()).stream()
                .map(a -> shape.initials() ? a : a.substring(0, 1)).collect(Collectors.joining("&"));
        return shape.shown() < authors.size() ? line + "+" : line;
    }

    private String label(int work, Shape shape) {
        return names(work, shape) + held.works.get(work).yearText() + shape.suffix();
    }

    private List<List<Integer>> groups(Shape[] shapes) {
        Map<String, List<Integer>> byLabel = new LinkedHashMap<>();
        for (int work : bibliographyOrder()) {
            byLabel.computeIfAbsent(label(work, shapes[work]), l -> new ArrayList<>()).add(work);
        }
        return byLabel.values().stream().filter(g -> g.size() >= 2).collect(Collectors.toList());
    }

    private int different(List<Integer> group, Shape[] shapes) {
        Set<String> seen = new HashSet<>();
        group.forEach(w -> seen.add(label(w, shapes[w])));
        return seen.size();
    }

    private int initially(int work) {
        int size = held.works.get(work).authors().size();
        return held.minimum != 0 && size >= held.minimum ? Math.min(size, held.first) : size;
    }

    private Shape[] shapes() {
        Shape[] shapes = new Shape[held.works.size()];
        for (int work = 0; work < shapes.length; work++) {
            shapes[work] = new Shape(initially(work), false, "");
        }
        if (held.steps % 2 == 1) {
            for (List<Integer> group : groups(shapes)) {
                Shape[] best = null;
                for (int n = held.first; n <= 4; n++) {
                    Shape[] tried = shapes.clone();
                    for (int w : group) {
                        int size = held.works.get(w).authors().size();
                        int shown = n > size ? size : n;
                        tried[w] = new Shape(Math.max(shown, initially(w)), false, "");
                    }
                    if (best == null || different(group, tried) > different(group, best)) {
                        best = tried;
                    }
                }
                for (int w : group) {
                    shapes[w] = best[w];
                }
            }
        }
        if (held.steps / 2 % 2 == 1) {
            for (List<Integer> group : groups(shapes)) {
                Shape[] tried = shapes.clone();
                group.forEach(w -> tried[w] = new Shape(shapes[w].shown(), true, ""));
                if (different(group, tried) >= 2) {
                    group.forEach(w -> shapes[w] = tried[w]);
                }
            }
        }
        if (held.steps / 4 == 1) {
            for (List<Integer> group : groups(shapes)) {
                for (int i = 0; i < group.size(); i++) {
                    Shape old = shapes[group.get(i)];
                    String suffix = "abcdefgh".substring(i, i + 1);
                    shapes[group.get(i)] = new Shape(old.shown(), old.initials(), suffix);
                }
            }
        }
        return shapes;
    }

    private String rendered(int citation) {
        List<Integer> works = new ArrayList<>(held.citations.get(citation));
        if (held.citeOrder == 1) {
            works.sort(Comparator.comparing(listing()::indexOf));
        }
        return switch (held.style) {
            case 0 -> authorYear(works);
            case 1 -> numeric(works);
            default -> note(citation, works);
        };
    }

    private String authorYear(List<Integer> works) {
        Shape[] shapes = shapes();
        String line = "(";
        int before = -1;
        for (int work : works) {
            Work w = held.works.get(work);
            Shape shape = shapes[work];
            if (before < 0) {
                line += label(work, shape);
            } else if (held.collapse > 0
                    && names(work, shape).equals(names(before, shapes[before]))) {
                boolean sameYear = w.year() == held.works.get(before).year();
                boolean bare = held.collapse == 2 && !shape.suffix().isEmpty() && sameYear;
                line += "," + (bare ? "" : w.yearText()) + shape.suffix();
            } else {
                line += ";" + label(work, shape);
            }
            before = work;
        }
        return line + ")";
    }

    private String numeric(List<Integer> works) {
        List<Integer> byNumber = byNumber();
        int[] n = works.stream().mapToInt(w -> byNumber.indexOf(w) + 1).toArray();
        List<String> parts = new ArrayList<>();
        int from = 0;
        while (from < n.length) {
            int to = from + 1;
            while (to < n.length && n[to] == n[to - 1] + 1) {
                to++;
            }
            if (held.collapse > 0 && to - from >= 3) {
                parts.add(n[from] + "-" + n[to - 1]);
            } else {
                Arrays.stream(n, from, to).forEach(one -> parts.add("" + one));
            }
            from = to;
        }
        return "[" + String.join(",", parts) + "]";
    }

    private String note(int citation, List<Integer> works) {
        Shape[] shapes = shapes();
        List<String> parts = new ArrayList<>();
        for (int work : works) {
            int earliest = 0;
            while (!held.citations.get(earliest).contains(work)) {
                earliest++;
            }
            Work w = held.works.get(work);
            if (parts.isEmpty() && citation > 0
                    && held.citations.get(citation - 1).equals(List.of(work))) {
                parts.add("i");
            } else if (earliest < citation) {
                parts.add(names(work, shapes[work]) + "n" + (earliest + 1));
            } else {
                parts.add(w.allAuthors() + w.title() + w.yearText());
            }
        }
        return String.join(";", parts) + ".";
    }

    private String entry(int work) {
        Work w = held.works.get(work);
        String number = held.style == 1 ? "[" + numberOf(work) + "]" : "";
        String suffix = held.style == 0 ? shapes()[work].suffix() : "";
        return number + w.allAuthors() + "(" + w.yearText() + suffix + ")" + w.title() + ".";
    }
}
