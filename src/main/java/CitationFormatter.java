/**
 * Sorts a bibliography, shortens author lists, disambiguates works that would look alike, and
 * renders citations in an author-year, a numeric or a note style.
 */
public final class CitationFormatter {
    public static final int INVALID_ARGUMENT = -1;
    public static final int INVALID_STATE = -2;
    public static final int LIMIT_REACHED = -3;
    public static final int NONE = -9;

    private static final int MAX_WORKS = 8;
    private static final int MAX_AUTHORS = 4;
    private static final int MAX_YEAR = 99;
    private static final int MAX_CITATIONS = 10;
    private static final int MAX_CITED = 5;
    private static final int MAX_TEXT = 150;
    private static final int MAX_CODE = 255;
    private static final int MAX_UNDO = 8;
    private static final int SLOTS = 3;

    private static final int AUTHOR_YEAR = 0;
    private static final int NUMERIC = 1;
    private static final int NOTE = 2;

    private static final int KEY_NONE = 0;
    private static final int KEY_AUTHOR = 1;
    private static final int KEY_YEAR = 2;
    private static final int KEY_TITLE = 3;

    private static final int ADD_NAMES = 1;
    private static final int ADD_INITIALS = 2;
    private static final int ADD_SUFFIXES = 4;
    private static final int ALL_STEPS = 7;

    private static final int MAX_COLLAPSE = 2;
    private static final int MAX_ET_AL_MINIMUM = 5;
    private static final int MAX_ET_AL_FIRST = 3;

    private static final int NO_ERROR = -1;
    private static final int TEXT_ERROR = -10;
    private static final int NO_SUFFIX = 0;

    private final Text text = new Text();
    private final WorksReader worksReader = new WorksReader(text);
    private final NumbersReader numbersReader = new NumbersReader(text);
    private final State state = new State();
    private final Works works = state.works;
    private final Settings settings = state.settings;
    private final Citations citations = state.citations;
    private final History history = new History(state);
    private final Arrangement arrangement = new Arrangement(state);
    private final Labels labels = new Labels(state, arrangement);
    private final Renderer renderer = new Renderer(state, arrangement, labels);

    public CitationFormatter() {
    }

    public int appendCharacter(int character) {
        if (!inRange(character, 0, MAX_CODE)) {
            return INVALID_ARGUMENT;
        }
        if (text.length >= MAX_TEXT) {
            return LIMIT_REACHED;
        }
        text.append(character);
        return text.length;
    }

    public int clearText() {
        int before = text.length;
        text.length = 0;
        return before;
    }

    public int loadWorks() {
        int error = worksReader.read();
        if (error != NO_ERROR) {
            return TEXT_ERROR - error;
        }
        history.save();
        works.copyFrom(worksReader.found);
        citations.count = 0;
        text.length = 0;
        return works.count;
    }

    public int expandNumbers() {
        int error = numbersReader.read(works.count);
        if (error != NO_ERROR) {
            return TEXT_ERROR - error;
        }
        text.length = 0;
        arrangement.update();
        return arrangement.worksWithNumbers(numbersReader.found);
    }

    public int removeWork(int work) {
        if (!works.has(work)) {
            return INVALID_ARGUMENT;
        }
        history.save();
        works.removeAt(work);
        citations.dropWork(work);
        return citations.count;
    }

    public int setYear(int work, int year) {
        if (!works.has(work) || !inRange(year, 0, MAX_YEAR)) {
            return INVALID_ARGUMENT;
        }
        history.save();
        int previous = works.years[work];
        works.years[work] = year;
        return previous;
    }

    public int setStyle(int style) {
        if (!inRange(style, AUTHOR_YEAR, NOTE)) {
            return INVALID_ARGUMENT;
        }
        history.save();
        int previous = settings.style;
        settings.style = style;
        return previous;
    }

    public int setEtAl(int minimum, int first) {
        if (!inRange(minimum, 0, MAX_ET_AL_MINIMUM) || !inRange(first, 1, MAX_ET_AL_FIRST)) {
            return INVALID_ARGUMENT;
        }
        history.save();
        int previous = 10 * settings.etAlMinimum + settings.etAlFirst;
        settings.etAlMinimum = minimum;
        settings.etAlFirst = first;
        return previous;
    }

    public int setDisambiguation(int steps) {
        if (!inRange(steps, 0, ALL_STEPS)) {
            return INVALID_ARGUMENT;
        }
        history.save();
        int previous = settings.steps;
        settings.steps = steps;
        return previous;
    }

    public int setCollapseLevel(int level) {
        if (!inRange(level, 0, MAX_COLLAPSE)) {
            return INVALID_ARGUMENT;
        }
        history.save();
        int previous = settings.collapseLevel;
        settings.collapseLevel = level;
        return previous;
    }

    public int setSortSlot(int slot, int key, int direction) {
        if (!inRange(slot, 0, SLOTS - 1) || !inRange(key, KEY_NONE, KEY_TITLE)
                || !inRange(direction, 0, 1)) {
            return INVALID_ARGUMENT;
        }
        history.save();
        int previous = 2 * settings.sortKeys[slot] + settings.sortDirections[slot];
        settings.sortKeys[slot] = key;
        settings.sortDirections[slot] = direction;
        return previous;
    }

    public int setNumbering(int numbering) {
        if (!inRange(numbering, 0, 1)) {
            return INVALID_ARGUMENT;
        }
        history.save();
        int previous = settings.numbering;
        settings.numbering = numbering;
        return previous;
    }

    public int setCiteOrder(int order) {
        if (!inRange(order, 0, 1)) {
            return INVALID_ARGUMENT;
        }
        history.save();
        int previous = settings.citeOrder;
        settings.citeOrder = order;
        return previous;
    }

    public int beginCitation(int work) {
        if (!works.has(work)) {
            return INVALID_ARGUMENT;
        }
        if (citations.count >= MAX_CITATIONS) {
            return LIMIT_REACHED;
        }
        history.save();
        citations.begin(work);
        return citations.count - 1;
    }

    public int addToCitation(int work) {
        if (!works.has(work)) {
            return INVALID_ARGUMENT;
        }
        int last = citations.count - 1;
        if (last < 0 || citations.cites(last, work)) {
            return INVALID_STATE;
        }
        if (citations.sizes[last] >= MAX_CITED) {
            return LIMIT_REACHED;
        }
        history.save();
        citations.add(last, work);
        return citations.sizes[last];
    }

    public int removeCitation(int citation) {
        if (!citations.has(citation)) {
            return INVALID_ARGUMENT;
        }
        history.save();
        int size = citations.sizes[citation];
        citations.removeAt(citation);
        return size;
    }

    public int undo() {
        if (history.count == 0) {
            return INVALID_STATE;
        }
        history.restore();
        return history.count;
    }

    public int workCount() {
        return works.count;
    }

    public int authorCount(int work) {
        return works.has(work) ? works.authorCounts[work] : INVALID_ARGUMENT;
    }

    public int citationCount() {
        return citations.count;
    }

    public int citationSize(int citation) {
        return citations.has(citation) ? citations.sizes[citation] : INVALID_ARGUMENT;
    }

    public int bibliographyAt(int position) {
        if (!works.has(position)) {
            return INVALID_ARGUMENT;
        }
        arrangement.update();
        return arrangement.listing[position];
    }

    public int numberOf(int work) {
        if (!works.has(work)) {
            return INVALID_ARGUMENT;
        }
        arrangement.update();
        return arrangement.numbers[work];
    }

    public int shownAuthors(int work) {
        if (!works.has(work)) {
            return INVALID_ARGUMENT;
        }
        labels.update();
        return labels.shown[work];
    }

    public int showsInitials(int work) {
        if (!works.has(work)) {
            return INVALID_ARGUMENT;
        }
        labels.update();
        return labels.withInitials[work] ? 1 : 0;
    }

    public int suffixOf(int work) {
        if (!works.has(work)) {
            return INVALID_ARGUMENT;
        }
        labels.update();
        return labels.suffixes[work] == NO_SUFFIX ? NONE : labels.suffixes[work];
    }

    public int ambiguousWith(int work) {
        if (!works.has(work)) {
            return INVALID_ARGUMENT;
        }
        labels.update();
        return labels.worksLabelledLike(work) & ~(1 << work);
    }

    public int renderedLength(int citation) {
        if (!citations.has(citation)) {
            return INVALID_ARGUMENT;
        }
        labels.update();
        renderer.renderCitation(citation);
        return renderer.length;
    }

    public int renderedCharacter(int citation, int index) {
        if (!citations.has(citation) || index < 0) {
            return INVALID_ARGUMENT;
        }
        labels.update();
        renderer.renderCitation(citation);
        return renderer.codeAt(index);
    }

    public int entryCharacter(int position, int index) {
        if (!works.has(position) || index < 0) {
            return INVALID_ARGUMENT;
        }
        labels.update();
        renderer.renderEntry(arrangement.listing[position]);
        return renderer.codeAt(index);
    }

    private static boolean inRange(int value, int least, int greatest) {
        return value >= least && value <= greatest;
    }

    private static boolean inSet(int bits, int element) {
        return (bits >> element & 1) == 1;
    }

    private static boolean hasBelow(int bits, int element) {
        return (bits & (1 << element) - 1) != 0;
    }

    /** The text buffer, and how it falls into lexemes. */
    private static final class Text {
        private static final int OTHER = 0;
        private static final int LOWER = 1;
        private static final int UPPER = 2;
        private static final int DIGIT = 3;

        final int[] codes = new int[MAX_TEXT];
        int length = 0;

        void append(int code) {
            if (length < MAX_TEXT) {
                codes[length] = code;
                length++;
            }
        }

        /** The offset behind the lexeme that begins at start. */
        int lexemeEnd(int start) {
            int kind = kindAt(start);
            int end = start + 1;
            if (kind == UPPER) {
                return kindAt(end) == LOWER ? end + 1 : end;
            }
            if (kind == OTHER) {
                return end;
            }
            while (end < length && kindAt(end) == kind) {
                end++;
            }
            return end;
        }

        boolean isWorkWord(int start, int size) {
            return size == 4 && start + size <= length
                    && codes[start] == 'w' && codes[start + 1] == 'o'
                    && codes[start + 2] == 'r' && codes[start + 3] == 'k';
        }

        boolean isAuthor(int start, int size) {
            return size == 2 && kindAt(start) == UPPER;
        }

        boolean isYear(int start, int size) {
            return size == 2 && kindAt(start) == DIGIT;
        }

        boolean isTitle(int start, int size) {
            return size == 1 && kindAt(start) == LOWER;
        }

        private int kindAt(int offset) {
            if (offset >= length) {
                return OTHER;
            }
            int code = codes[offset];
            if (inRange(code, 'a', 'z')) {
                return LOWER;
            }
            if (inRange(code, 'A', 'Z')) {
                return UPPER;
            }
            return inRange(code, '0', '9') ? DIGIT : OTHER;
        }
    }

    /** Reads the works of a text into a database of its own, so that an error changes nothing. */
    private static final class WorksReader {
        private static final int AT_WORK = 0;
        private static final int AT_FIRST_AUTHOR = 1;
        private static final int AT_AUTHOR_OR_YEAR = 2;
        private static final int AT_TITLE = 3;
        private static final int AT_END = 4;

        final Works found = new Works();
        private final Text text;
        private int stage = AT_WORK;

        WorksReader(Text text) {
            this.text = text;
        }

        /** Returns the error offset, or NO_ERROR. */
        int read() {
            found.count = 0;
            stage = AT_WORK;
            int lexemeEnd = 0;
            for (int at = 0; at < text.length; at++) {
                if (at < lexemeEnd || text.codes[at] == ' ') {
                    continue;
                }
                lexemeEnd = text.lexemeEnd(at);
                if (!takes(at, lexemeEnd - at)) {
                    return at;
                }
            }
            return stage == AT_WORK ? NO_ERROR : text.length;
        }

        private boolean takes(int start, int size) {
            switch (stage) {
                case AT_WORK:
                    return takesWorkWord(start, size);
                case AT_FIRST_AUTHOR:
                    return takesAuthor(start, size);
                case AT_AUTHOR_OR_YEAR:
                    return takesAuthor(start, size) || takesYear(start, size);
                case AT_TITLE:
                    return takesTitle(start, size);
                default:
                    return takesSemicolon(start);
            }
        }

        private boolean takesWorkWord(int start, int size) {
            if (!text.isWorkWord(start, size) || found.count >= MAX_WORKS) {
                return false;
            }
            found.authorCounts[found.count] = 0;
            stage = AT_FIRST_AUTHOR;
            return true;
        }

        private boolean takesAuthor(int start, int size) {
            int authors = found.authorCounts[found.count];
            if (!text.isAuthor(start, size) || authors >= MAX_AUTHORS) {
                return false;
            }
            int place = found.count * MAX_AUTHORS + authors;
            found.families[place] = text.codes[start];
            found.initials[place] = text.codes[start + 1];
            found.authorCounts[found.count] = authors + 1;
            stage = AT_AUTHOR_OR_YEAR;
            return true;
        }

        private boolean takesYear(int start, int size) {
            if (!text.isYear(start, size)) {
                return false;
            }
            int tens = text.codes[start] - '0';
            found.years[found.count] = 10 * tens + text.codes[start + 1] - '0';
            stage = AT_TITLE;
            return true;
        }

        private boolean takesTitle(int start, int size) {
            if (!text.isTitle(start, size)) {
                return false;
            }
            found.titles[found.count] = text.codes[start];
            stage = AT_END;
            return true;
        }

        private boolean takesSemicolon(int start) {
            if (text.codes[start] != ';') {
                return false;
            }
            found.count++;
            stage = AT_WORK;
            return true;
        }
    }

    /** Reads a rendered numeric citation into a bit set of numbers. */
    private static final class NumbersReader {
        private static final int AT_OPENING = 0;
        private static final int AT_FIRST = 1;
        private static final int BEHIND_FIRST = 2;
        private static final int AT_LAST = 3;
        private static final int BEHIND_LAST = 4;
        private static final int CLOSED = 5;

        int found = 0;
        private final Text text;
        private int stage = AT_OPENING;
        private int greatest = 0;
        private int first = 0;

        NumbersReader(Text text) {
            this.text = text;
        }

        /** Returns the error offset, or NO_ERROR. */
        int read(int greatestNumber) {
            found = 0;
            stage = AT_OPENING;
            greatest = greatestNumber;
            for (int at = 0; at < text.length; at++) {
                if (!takes(text.codes[at])) {
                    return at;
                }
            }
            return stage == CLOSED ? NO_ERROR : text.length;
        }

        private boolean takes(int code) {
            switch (stage) {
                case AT_OPENING:
                    stage = AT_FIRST;
                    return code == '[';
                case AT_FIRST:
                    return takesFirst(code - '0');
                case BEHIND_FIRST:
                    return takesHyphen(code) || takesItemEnd(code);
                case AT_LAST:
                    return takesLast(code - '0');
                case BEHIND_LAST:
                    return takesItemEnd(code);
                default:
                    return false;
            }
        }

        private boolean takesFirst(int number) {
            if (!inRange(number, 1, greatest)) {
                return false;
            }
            first = number;
            found |= 1 << number;
            stage = BEHIND_FIRST;
            return true;
        }

        private boolean takesLast(int number) {
            if (!inRange(number, first + 1, greatest)) {
                return false;
            }
            for (int between = first + 1; between <= number; between++) {
                found |= 1 << between;
            }
            stage = BEHIND_LAST;
            return true;
        }

        private boolean takesHyphen(int code) {
            if (code != '-') {
                return false;
            }
            stage = AT_LAST;
            return true;
        }

        private boolean takesItemEnd(int code) {
            if (code != ',' && code != ']') {
                return false;
            }
            stage = code == ',' ? AT_FIRST : CLOSED;
            return true;
        }
    }

    /** The database of works. */
    private static final class Works {
        int count = 0;
        final int[] authorCounts = new int[MAX_WORKS];
        final int[] families = new int[MAX_WORKS * MAX_AUTHORS];
        final int[] initials = new int[MAX_WORKS * MAX_AUTHORS];
        final int[] years = new int[MAX_WORKS];
        final int[] titles = new int[MAX_WORKS];

        boolean has(int work) {
            return work >= 0 && work < count;
        }

        void copyFrom(Works other) {
            count = other.count;
            for (int work = 0; work < count; work++) {
                copyWork(other, work, work);
            }
        }

        void removeAt(int work) {
            for (int behind = work + 1; behind < count; behind++) {
                copyWork(this, behind, behind - 1);
            }
            count--;
        }

        int compareAuthors(int left, int right) {
            for (int i = 0; i < authorCounts[left] && i < authorCounts[right]; i++) {
                int leftPlace = left * MAX_AUTHORS + i;
                int rightPlace = right * MAX_AUTHORS + i;
                if (families[leftPlace] != families[rightPlace]) {
                    return families[leftPlace] - families[rightPlace];
                }
                if (initials[leftPlace] != initials[rightPlace]) {
                    return initials[leftPlace] - initials[rightPlace];
                }
            }
            return authorCounts[left] - authorCounts[right];
        }

        private void copyWork(Works source, int from, int to) {
            authorCounts[to] = source.authorCounts[from];
            years[to] = source.years[from];
            titles[to] = source.titles[from];
            for (int i = 0; i < MAX_AUTHORS; i++) {
                families[to * MAX_AUTHORS + i] = source.families[from * MAX_AUTHORS + i];
                initials[to * MAX_AUTHORS + i] = source.initials[from * MAX_AUTHORS + i];
            }
        }
    }

    /** All settings, with their initial values. */
    private static final class Settings {
        int style = AUTHOR_YEAR;
        int etAlMinimum = 3;
        int etAlFirst = 1;
        int steps = ALL_STEPS;
        int collapseLevel = 0;
        int numbering = 0;
        int citeOrder = 0;
        final int[] sortKeys = {KEY_AUTHOR, KEY_YEAR, KEY_NONE};
        final int[] sortDirections = new int[SLOTS];

        void copyFrom(Settings other) {
            style = other.style;
            etAlMinimum = other.etAlMinimum;
            etAlFirst = other.etAlFirst;
            steps = other.steps;
            collapseLevel = other.collapseLevel;
            numbering = other.numbering;
            citeOrder = other.citeOrder;
            for (int slot = 0; slot < SLOTS; slot++) {
                sortKeys[slot] = other.sortKeys[slot];
                sortDirections[slot] = other.sortDirections[slot];
            }
        }
    }

    /** The citations, each with its works in the order in which they were added. */
    private static final class Citations {
        int count = 0;
        final int[] sizes = new int[MAX_CITATIONS];
        private final int[] cited = new int[MAX_CITATIONS * MAX_CITED];

        boolean has(int citation) {
            return citation >= 0 && citation < count;
        }

        int workAt(int citation, int index) {
            return cited[citation * MAX_CITED + index];
        }

        boolean cites(int citation, int work) {
            for (int i = 0; i < sizes[citation]; i++) {
                if (workAt(citation, i) == work) {
                    return true;
                }
            }
            return false;
        }

        /** The earliest citation that cites the work; the number of citations if none does. */
        int earliestCiting(int work) {
            int citation = 0;
            while (citation < count && !cites(citation, work)) {
                citation++;
            }
            return citation;
        }

        void begin(int work) {
            if (count < MAX_CITATIONS) {
                sizes[count] = 0;
                add(count, work);
                count++;
            }
        }

        void add(int citation, int work) {
            int size = sizes[citation];
            if (size < MAX_CITED) {
                cited[citation * MAX_CITED + size] = work;
                sizes[citation] = size + 1;
            }
        }

        void removeAt(int citation) {
            for (int behind = citation + 1; behind < count; behind++) {
                copyCitation(this, behind, behind - 1);
            }
            count--;
        }

        void copyFrom(Citations other) {
            count = other.count;
            for (int citation = 0; citation < count; citation++) {
                copyCitation(other, citation, citation);
            }
        }

        /** Follows the removal of a work: greater works move down, and no citation stays empty. */
        void dropWork(int work) {
            int kept = 0;
            for (int citation = 0; citation < count; citation++) {
                copyWithout(work, citation, kept);
                if (sizes[kept] > 0) {
                    kept++;
                }
            }
            count = kept;
        }

        private void copyWithout(int work, int from, int to) {
            int size = sizes[from];
            sizes[to] = 0;
            for (int i = 0; i < size; i++) {
                int other = workAt(from, i);
                if (other != work) {
                    add(to, other > work ? other - 1 : other);
                }
            }
        }

        private void copyCitation(Citations source, int from, int to) {
            sizes[to] = source.sizes[from];
            for (int i = 0; i < MAX_CITED; i++) {
                cited[to * MAX_CITED + i] = source.cited[from * MAX_CITED + i];
            }
        }
    }

    /** What an edit changes and undo restores. */
    private static final class State {
        final Works works = new Works();
        final Settings settings = new Settings();
        final Citations citations = new Citations();

        void copyFrom(State other) {
            works.copyFrom(other.works);
            settings.copyFrom(other.settings);
            citations.copyFrom(other.citations);
        }
    }

    /** The states before the last edits, in a ring whose oldest one gives way to a new one. */
    private static final class History {
        int count = 0;
        private final State current;
        private final State[] ring = new State[MAX_UNDO];
        private int next = 0;

        History(State current) {
            this.current = current;
            for (int i = 0; i < MAX_UNDO; i++) {
                ring[i] = new State();
            }
        }

        void save() {
            ring[next].copyFrom(current);
            next = (next + 1) % MAX_UNDO;
            count = Math.min(count + 1, MAX_UNDO);
        }

        void restore() {
            next = (next + MAX_UNDO - 1) % MAX_UNDO;
            current.copyFrom(ring[next]);
            count--;
        }
    }

    /** The bibliography order, the numbers, and the order in which the bibliography lists. */
    private static final class Arrangement {
        final int[] order = new int[MAX_WORKS];
        final int[] numbers = new int[MAX_WORKS];
        final int[] listing = new int[MAX_WORKS];
        private final Works works;
        private final Settings settings;
        private final Citations citations;

        Arrangement(State state) {
            works = state.works;
            settings = state.settings;
            citations = state.citations;
        }

        void update() {
            for (int work = 0; work < works.count; work++) {
                order[placeOf(work)] = work;
            }
            giveNumbers();
            for (int place = 0; place < works.count; place++) {
                int work = order[place];
                listing[settings.style == NUMERIC ? numbers[work] - 1 : place] = work;
            }
        }

        int worksWithNumbers(int wanted) {
            int found = 0;
            for (int work = 0; work < works.count; work++) {
                if (inSet(wanted, numbers[work])) {
                    found |= 1 << work;
                }
            }
            return found;
        }

        private int placeOf(int work) {
            int place = 0;
            for (int other = 0; other < works.count; other++) {
                if (precedes(other, work)) {
                    place++;
                }
            }
            return place;
        }

        private boolean precedes(int left, int right) {
            for (int slot = 0; slot < SLOTS; slot++) {
                int result = compare(settings.sortKeys[slot], left, right);
                if (result != 0) {
                    return result < 0 == (settings.sortDirections[slot] == 0);
                }
            }
            return left < right;
        }

        private int compare(int key, int left, int right) {
            switch (key) {
                case KEY_AUTHOR:
                    return works.compareAuthors(left, right);
                case KEY_YEAR:
                    return works.years[left] - works.years[right];
                case KEY_TITLE:
                    return works.titles[left] - works.titles[right];
                default:
                    return 0;
            }
        }

        private void giveNumbers() {
            int given = 0;
            for (int work = 0; work < works.count; work++) {
                numbers[work] = 0;
            }
            if (settings.numbering == 1) {
                given = numberCitedWorks();
            }
            for (int place = 0; place < works.count; place++) {
                if (numbers[order[place]] == 0) {
                    given++;
                    numbers[order[place]] = given;
                }
            }
        }

        private int numberCitedWorks() {
            int given = 0;
            for (int citation = 0; citation < citations.count; citation++) {
                for (int i = 0; i < citations.sizes[citation]; i++) {
                    int work = citations.workAt(citation, i);
                    if (numbers[work] == 0) {
                        given++;
                        numbers[work] = given;
                    }
                }
            }
            return given;
        }
    }

    /** What the label of each work shows, after the enabled disambiguation steps. */
    private static final class Labels {
        /** Five bits tell the 26 letters and, as 0, a letter that is not shown. */
        private static final int LETTER_BITS = 5;

        final int[] shown = new int[MAX_WORKS];
        final boolean[] withInitials = new boolean[MAX_WORKS];
        final int[] suffixes = new int[MAX_WORKS];
        private final Works works;
        private final Settings settings;
        private final Arrangement arrangement;
        private final long[] namesKeys = new long[MAX_WORKS];
        private final int[] groups = new int[MAX_WORKS];

        Labels(State state, Arrangement arrangement) {
            works = state.works;
            settings = state.settings;
            this.arrangement = arrangement;
        }

        /** Brings the arrangement up to date too, since suffixes follow the bibliography order. */
        void update() {
            arrangement.update();
            for (int work = 0; work < works.count; work++) {
                show(work, initiallyShown(work), false);
                suffixes[work] = NO_SUFFIX;
            }
            for (int step = ADD_NAMES; step <= ADD_SUFFIXES; step *= 2) {
                if ((settings.steps & step) != 0) {
                    perform(step);
                }
            }
        }

        boolean hidesAuthors(int work) {
            return shown[work] < works.authorCounts[work];
        }

        boolean sameNames(int left, int right) {
            return namesKeys[left] == namesKeys[right];
        }

        /** A bit set that contains the work itself too. */
        int worksLabelledLike(int work) {
            int found = 0;
            for (int other = 0; other < works.count; other++) {
                if (sameNames(work, other) && works.years[work] == works.years[other]
                        && suffixes[work] == suffixes[other]) {
                    found |= 1 << other;
                }
            }
            return found;
        }

        private int initiallyShown(int work) {
            int authors = works.authorCounts[work];
            if (settings.etAlMinimum == 0 || authors < settings.etAlMinimum) {
                return authors;
            }
            return Math.min(settings.etAlFirst, authors);
        }

        /** Keeps the names part as a number too: the parts of two works are equal if these are. */
        private void show(int work, int authors, boolean initials) {
            shown[work] = authors;
            withInitials[work] = initials;
            long key = hidesAuthors(work) ? 1 : 0;
            for (int i = 0; i < authors; i++) {
                int place = work * MAX_AUTHORS + i;
                int family = works.families[place] - 'A' + 1;
                int initial = initials ? works.initials[place] - 'a' + 1 : 0;
                key = (key << LETTER_BITS | family) << LETTER_BITS | initial;
            }
            namesKeys[work] = key;
        }

        /** All groups are formed before the first of them is changed. */
        private void perform(int step) {
            for (int work = 0; work < works.count; work++) {
                groups[work] = worksLabelledLike(work);
            }
            for (int work = 0; work < works.count; work++) {
                if (!isFirstOfGroup(work)) {
                    continue;
                }
                switch (step) {
                    case ADD_NAMES:
                        addNames(groups[work]);
                        break;
                    case ADD_INITIALS:
                        addInitials(groups[work]);
                        break;
                    default:
                        addSuffixes(groups[work]);
                        break;
                }
            }
        }

        /** A work whose label is its own forms no group. */
        private boolean isFirstOfGroup(int work) {
            return groups[work] != 1 << work && !hasBelow(groups[work], work);
        }

        private void addNames(int group) {
            int best = settings.etAlFirst;
            int most = 0;
            for (int wanted = settings.etAlFirst; wanted <= MAX_AUTHORS; wanted++) {
                showAuthors(group, wanted);
                int different = differentLabels(group);
                if (different > most) {
                    best = wanted;
                    most = different;
                }
            }
            showAuthors(group, best);
        }

        private void showAuthors(int group, int wanted) {
            for (int work = 0; work < works.count; work++) {
                if (inSet(group, work)) {
                    int possible = Math.min(wanted, works.authorCounts[work]);
                    show(work, Math.max(possible, initiallyShown(work)), withInitials[work]);
                }
            }
        }

        private void addInitials(int group) {
            showInitials(group, true);
            if (differentLabels(group) < 2) {
                showInitials(group, false);
            }
        }

        private void showInitials(int group, boolean initials) {
            for (int work = 0; work < works.count; work++) {
                if (inSet(group, work)) {
                    show(work, shown[work], initials);
                }
            }
        }

        private void addSuffixes(int group) {
            int suffix = 'a';
            for (int place = 0; place < works.count; place++) {
                int work = arrangement.order[place];
                if (inSet(group, work)) {
                    suffixes[work] = suffix;
                    suffix++;
                }
            }
        }

        /** Counts the works of the group that are the first ones with their label. */
        private int differentLabels(int group) {
            int different = 0;
            for (int work = 0; work < works.count; work++) {
                if (inSet(group, work) && !hasBelow(group & worksLabelledLike(work), work)) {
                    different++;
                }
            }
            return different;
        }
    }

    /** Writes one citation or one entry of the bibliography at a time. */
    private static final class Renderer {
        /** Above the longest line: five works with four authors each take 76 characters. */
        private static final int MAX_LINE = 100;

        int length = 0;
        private final int[] line = new int[MAX_LINE];
        private final Works works;
        private final Settings settings;
        private final Citations citations;
        private final Arrangement arrangement;
        private final Labels labels;
        private final int[] sequence = new int[MAX_CITED];
        private int sequenceSize = 0;

        Renderer(State state, Arrangement arrangement, Labels labels) {
            works = state.works;
            settings = state.settings;
            citations = state.citations;
            this.arrangement = arrangement;
            this.labels = labels;
        }

        int codeAt(int index) {
            return index >= 0 && index < length ? line[index] : NONE;
        }

        void renderCitation(int citation) {
            length = 0;
            putInSequence(citation);
            switch (settings.style) {
                case AUTHOR_YEAR:
                    writeAuthorYear();
                    break;
                case NUMERIC:
                    writeNumeric();
                    break;
                default:
                    writeNote(citation);
                    break;
            }
        }

        void renderEntry(int work) {
            length = 0;
            if (settings.style == NUMERIC) {
                write('[');
                writeDigit(arrangement.numbers[work]);
                write(']');
            }
            writeAllAuthors(work);
            write('(');
            writeYear(work);
            if (settings.style == AUTHOR_YEAR) {
                writeSuffix(work);
            }
            write(')');
            write(works.titles[work]);
            write('.');
        }

        private void putInSequence(int citation) {
            sequenceSize = 0;
            if (settings.citeOrder == 0) {
                for (int i = 0; i < citations.sizes[citation]; i++) {
                    addToSequence(citations.workAt(citation, i));
                }
                return;
            }
            for (int position = 0; position < works.count; position++) {
                if (citations.cites(citation, arrangement.listing[position])) {
                    addToSequence(arrangement.listing[position]);
                }
            }
        }

        private void addToSequence(int work) {
            if (sequenceSize < MAX_CITED) {
                sequence[sequenceSize] = work;
                sequenceSize++;
            }
        }

        private void writeAuthorYear() {
            write('(');
            for (int i = 0; i < sequenceSize; i++) {
                int work = sequence[i];
                if (i > 0 && collapsesNames(sequence[i - 1], work)) {
                    write(',');
                    writeCollapsed(sequence[i - 1], work);
                } else {
                    if (i > 0) {
                        write(';');
                    }
                    writeLabel(work);
                }
            }
            write(')');
        }

        private boolean collapsesNames(int before, int work) {
            return settings.collapseLevel > 0 && labels.sameNames(before, work);
        }

        private void writeCollapsed(int before, int work) {
            boolean suffixSuffices = settings.collapseLevel == MAX_COLLAPSE
                    && labels.suffixes[work] != NO_SUFFIX
                    && works.years[before] == works.years[work];
            if (!suffixSuffices) {
                writeYear(work);
            }
            writeSuffix(work);
        }

        private void writeNumeric() {
            write('[');
            for (int i = 0; i < sequenceSize; i++) {
                if (i > 0) {
                    write(',');
                }
                writeDigit(numberAt(i));
                int last = settings.collapseLevel == 0 ? i : runEnd(i);
                if (last - i >= 2) {
                    write('-');
                    writeDigit(numberAt(last));
                    i = last;
                }
            }
            write(']');
        }

        private int numberAt(int index) {
            return arrangement.numbers[sequence[index]];
        }

        private int runEnd(int start) {
            int end = start;
            while (end + 1 < sequenceSize && numberAt(end + 1) == numberAt(end) + 1) {
                end++;
            }
            return end;
        }

        private void writeNote(int citation) {
            for (int i = 0; i < sequenceSize; i++) {
                if (i > 0) {
                    write(';');
                }
                if (i == 0 && repeatsNoteBefore(citation)) {
                    write('i');
                } else {
                    writeNoted(citation, sequence[i]);
                }
            }
            write('.');
        }

        private boolean repeatsNoteBefore(int citation) {
            return citation > 0 && citations.sizes[citation - 1] == 1
                    && citations.workAt(citation - 1, 0) == sequence[0];
        }

        private void writeNoted(int citation, int work) {
            int earliest = citations.earliestCiting(work);
            if (earliest < citation) {
                writeNames(work);
                write('n');
                writeDigit(earliest + 1);
                return;
            }
            writeAllAuthors(work);
            write(works.titles[work]);
            writeYear(work);
        }

        private void writeLabel(int work) {
            writeNames(work);
            writeYear(work);
            writeSuffix(work);
        }

        private void writeNames(int work) {
            writeAuthors(work, labels.shown[work], labels.withInitials[work]);
            if (labels.hidesAuthors(work)) {
                write('+');
            }
        }

        private void writeAllAuthors(int work) {
            writeAuthors(work, works.authorCounts[work], true);
        }

        private void writeAuthors(int work, int authors, boolean withInitials) {
            for (int i = 0; i < authors; i++) {
                if (i > 0) {
                    write('&');
                }
                write(works.families[work * MAX_AUTHORS + i]);
                if (withInitials) {
                    write(works.initials[work * MAX_AUTHORS + i]);
                }
            }
        }

        private void writeYear(int work) {
            writeDigit(works.years[work] / 10);
            writeDigit(works.years[work] % 10);
        }

        private void writeSuffix(int work) {
            if (labels.suffixes[work] != NO_SUFFIX) {
                write(labels.suffixes[work]);
            }
        }

        /** One digit is enough: there are 8 works, and a note refers to the 9th of 10 at most. */
        private void writeDigit(int digit) {
            write('0' + digit);
        }

        private void write(int code) {
            if (length < MAX_LINE) {
                line[length] = code;
                length++;
            }
        }
    }
}
