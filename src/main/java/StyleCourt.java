import java.util.ArrayList;
import java.util.Arrays;

/**
 * A court of styles: markup is read into elements, a style's rules are weighed for each of them,
 * and what a property is there, and which rule said so, is told.
 *
 * <p>A text that is read makes tables of its own, which take the place of the former ones only when
 * the whole text was good: so a broken text changes nothing.
 */
public final class StyleCourt {
    private static final int MOST_TAPE = 8192;
    private static final int MOST_OUT = 16384;
    private static final int BYTES_FED = 20;
    private static final int BYTES_OF_WORD = 8;

    private static final int MOST_ELEMENTS = 500;
    private static final int MOST_NESTED = 20;
    private static final int MOST_FIELDS = 6;
    private static final int MOST_ENTITIES = 40;
    private static final int MOST_SELECTORS = 120;
    private static final int MOST_STEPS = 8;
    private static final int MOST_CONDITIONS = 4;
    private static final int MOST_TOLD = 600;
    private static final int MOST_PROPERTIES = 30;
    private static final int LONGEST_NAME = 12;
    private static final int LONGEST_NUMBER = 7;
    private static final int GREATEST_NUMBER = 9999999;
    private static final int GREATEST_SHARE = 1000;
    private static final int WEIGHT_OF_CONDITION = 100;

    /** What stands behind the last byte of a text; no byte is this. */
    private static final int END = -1;

    private static final int KIND_NONE = 0;
    private static final int KIND_NAME = 1;
    private static final int KIND_NUMBER = 2;
    private static final int KIND_STRING = 3;

    private static final int HAS_FIELD = 0;
    private static final int IS_FIRST = 1;
    private static final int IS_LAST = 2;
    private static final int IS_EMPTY = 3;
    private static final int IS_NTH = 4;
    private static final int IS_NOT = 5;

    /** The two names that every source knows, each with the byte that it stands for behind it. */
    private static final byte[] KNOWN = {'l', 't', '<', 'a', 'm', 'p', '&'};
    private static final int ALWAYS_KNOWN = 2;

    private final byte[] tape = new byte[MOST_TAPE];
    private int tapeLength = 0;
    private final byte[] out = new byte[MOST_OUT];
    private int outLength = 0;
    private final int[] foundOnes = new int[MOST_ELEMENTS];
    private int foundCount = 0;
    private int askedWeight = 0;
    private Reader latestReader = new Reader(KNOWN, 0);
    private Source latestSource = new Source();
    private Style latestStyle = new Style();
    private final Element[] reach = new Element[MOST_NESTED];
    private final int[] shares = new int[MOST_NESTED];

    public StyleCourt() {
    }

    public int feed(int a, int b, int c, int d, int e) throws IndexOutOfBoundsException {
        if (tapeLength > MOST_TAPE - BYTES_FED) {
            throw new IndexOutOfBoundsException("the tape is full");
        }
        putOnTape(a);
        putOnTape(b);
        putOnTape(c);
        putOnTape(d);
        putOnTape(e);
        return tapeLength;
    }

    public int end(int n) throws IllegalArgumentException {
        if (n < 0 || n > tapeLength) {
            throw new IllegalArgumentException("the tape is not that long");
        }
        tapeLength = n;
        return n;
    }

    public int source() throws UnsupportedOperationException {
        Reader reader = takeTape();
        Source read = new Source();
        for (int turn = 0; turn < reader.bytes.length && reader.here() != END; turn++) {
            read.readPiece(reader);
        }
        if (read.open != read.root) {
            reader.failAt(reader.bytes.length);
        }
        latestSource = read;
        foundCount = 0;
        return read.elements.size();
    }

    public int style() throws UnsupportedOperationException {
        Reader reader = takeTape();
        Style read = new Style();
        for (int turn = 0; turn < reader.bytes.length && reader.nextSign() != END; turn++) {
            Rule rule = new Rule();
            read.readSelectors(reader, rule);
            read.readBody(reader, rule);
        }
        latestStyle = read;
        return read.selectors.size();
    }

    public int place() {
        return latestReader.brokenAt;
    }

    public int property(int e) throws IllegalArgumentException {
        Slice asked = takeName();
        Element at = elementAt(e);
        int which = latestStyle.numberOfName(asked);
        int shareCount = 0;
        Told told = latestStyle.countingFor(at, which, reach);
        for (int level = 0; level < MOST_NESTED && told != null && told.leansOnOuter(); level++) {
            if (told.share > 0) {
                shares[shareCount] = told.share;
                shareCount++;
            }
            at = at.parent;
            told = latestStyle.countingFor(at, which, reach);
        }
        return putValue(told, shareCount);
    }

    public int by(int e) throws IllegalArgumentException {
        Slice asked = takeName();
        Element at = elementAt(e);
        Told told = latestStyle.countingFor(at, latestStyle.numberOfName(asked), reach);
        return told == null ? -1 : told.index;
    }

    public int select() throws UnsupportedOperationException {
        Reader reader = takeTape();
        Selector asked = new Selector();
        asked.readSteps(reader);
        if (reader.nextSign() != END) {
            reader.failAt(reader.at);
        }
        askedWeight = asked.weight;
        foundCount = 0;
        for (int i = 0; i < latestSource.elements.size() && foundCount < foundOnes.length; i++) {
            if (asked.matches(latestSource.elements.get(i), reach)) {
                foundOnes[foundCount] = i;
                foundCount++;
            }
        }
        return foundCount;
    }

    public int found(int i) throws IndexOutOfBoundsException {
        if (i < 0 || i >= foundCount) {
            throw new IndexOutOfBoundsException("not so many are found");
        }
        return foundOnes[i];
    }

    public int fits(int s, int e) throws IllegalArgumentException {
        if (s < 0 || s >= latestStyle.selectors.size()) {
            throw new IllegalArgumentException("no such selector");
        }
        Element element = elementAt(e);
        return latestStyle.selectors.get(s).matches(element, reach) ? 1 : 0;
    }

    public int element(int e, int what) throws IllegalArgumentException {
        Element asked = elementAt(e);
        switch (what) {
            case 0:
                return asked.number;
            case 1:
                return asked.parent == null ? -1 : asked.parent.index;
            case 2:
                return asked.before == null ? -1 : asked.before.index;
            case 3:
                return asked.children;
            case 4:
                return asked.depth;
            case 5:
                return asked.fields.size();
            case 6:
                return asked.isEmpty() ? 1 : 0;
            case 7:
                return asked.begin;
            case 8:
                return asked.end;
            default:
                throw new IllegalArgumentException("nothing is asked by that number");
        }
    }

    public int tell(int e, int part) throws IllegalArgumentException, IndexOutOfBoundsException {
        Element asked = elementAt(e);
        if (part < 0 || part >= 2 + 2 * asked.fields.size()) {
            throw new IllegalArgumentException("the element has no such part");
        }
        if (part == 1) {
            return putTexts(asked);
        }
        if (part == 0) {
            return putSlice(asked.name);
        }
        Named field = asked.fields.get(part / 2 - 1);
        return putSlice(part % 2 == 0 ? field.name : field.text);
    }

    public long word(int i) throws IndexOutOfBoundsException {
        if (i < 0 || i >= outLength) {
            throw new IndexOutOfBoundsException("no byte of what is out");
        }
        long word = 0;
        for (int k = i; k < i + BYTES_OF_WORD; k++) {
            word = (word << 8) | (k < outLength ? out[k] & 255 : 0);
        }
        return word;
    }

    public int count(int what) throws IllegalArgumentException {
        if (what >= 10 && what < 10 + MOST_SELECTORS) {
            int s = what - 10;
            return s < latestStyle.selectors.size() ? latestStyle.selectors.get(s).weight : -1;
        }
        switch (what) {
            case 0:
                return tapeLength;
            case 1:
                return outLength;
            case 2:
                return latestStyle.selectors.size();
            case 3:
                return latestStyle.toldCount;
            case 4:
                return latestSource.elements.size();
            case 5:
                return foundCount;
            case 6:
                return askedWeight;
            default:
                throw new IllegalArgumentException("nothing is counted by that number");
        }
    }

    private void putOnTape(int four) {
        for (int shift = 24; shift >= 0; shift -= 8) {
            tape[tapeLength] = (byte) (four >> shift);
            tapeLength++;
        }
    }

    /** The reader stays, since it knows where it found its text broken. */
    private Reader takeTape() {
        latestReader = new Reader(tape, tapeLength);
        tapeLength = 0;
        return latestReader;
    }

    /** The slice is good until the next feed: it is of the tape itself. */
    private Slice takeName() {
        Slice name = new Slice(tape, 0, tapeLength);
        tapeLength = 0;
        return name;
    }

    private Element elementAt(int e) throws IllegalArgumentException {
        if (e < 0 || e >= latestSource.elements.size()) {
            throw new IllegalArgumentException("no such element");
        }
        return latestSource.elements.get(e);
    }

    private int putValue(Told told, int shareCount) {
        outLength = 0;
        if (told == null || shareCount > 0 && told.kind != KIND_NUMBER) {
            return KIND_NONE;
        }
        if (told.kind != KIND_NUMBER) {
            putSlice(told.text);
            return told.kind;
        }
        long number = told.number;
        // The last share is that of the outermost element, on which the inner ones are built.
        for (int k = shareCount - 1; k >= 0; k--) {
            number = Math.min(number * shares[k] / 100, GREATEST_NUMBER);
        }
        putNumber((int) number);
        return KIND_NUMBER;
    }

    private void putNumber(int number) {
        outLength = 1;
        for (int rest = number / 10; rest > 0; rest /= 10) {
            outLength++;
        }
        int rest = number;
        for (int k = outLength - 1; k >= 0; k--) {
            out[k] = (byte) ('0' + rest % 10);
            rest /= 10;
        }
    }

    private int putSlice(Slice slice) {
        outLength = slice.copyTo(out, 0);
        return outLength;
    }

    private int putTexts(Element asked) throws IndexOutOfBoundsException {
        ArrayList<Slice> texts = latestSource.texts;
        int end = Math.min(asked.endText, texts.size());
        int length = 0;
        for (int i = asked.firstText; i < end; i++) {
            length += texts.get(i).length;
        }
        if (length > MOST_OUT) {
            throw new IndexOutOfBoundsException("the text is too long");
        }
        outLength = 0;
        for (int i = asked.firstText; i < end; i++) {
            outLength = texts.get(i).copyTo(out, outLength);
        }
        return outLength;
    }

    private static boolean isSmall(int b) {
        return b >= 'a' && b <= 'z';
    }

    private static boolean isDigit(int b) {
        return b >= '0' && b <= '9';
    }

    private static boolean isBlank(int b) {
        return b == 10 || b == 32;
    }

    private static boolean isPrinted(int b) {
        return b >= 32 && b <= 126;
    }

    private static Named findNamed(ArrayList<Named> list, Slice name) {
        for (int i = 0; i < list.size(); i++) {
            if (list.get(i).name.sameAs(name)) {
                return list.get(i);
            }
        }
        return null;
    }

    /** Some bytes of a text in a row: a name, what is in a string, or a run of text. */
    private static final class Slice {
        final byte[] bytes;
        final int from;
        final int length;

        Slice(byte[] bytes, int from, int length) {
            this.bytes = bytes;
            this.from = from;
            this.length = length;
        }

        boolean sameAs(Slice other) {
            if (length != other.length) {
                return false;
            }
            for (int i = 0; i < length; i++) {
                if (bytes[from + i] != other.bytes[other.from + i]) {
                    return false;
                }
            }
            return true;
        }

        boolean spells(String word) {
            if (length != word.length()) {
                return false;
            }
            for (int i = 0; i < length; i++) {
                if (bytes[from + i] != word.charAt(i)) {
                    return false;
                }
            }
            return true;
        }

        boolean holds(int b) {
            for (int i = 0; i < length; i++) {
                if (bytes[from + i] == b) {
                    return true;
                }
            }
            return false;
        }

        /** Answers where the next bytes would go; what has no room is left out. */
        int copyTo(byte[] row, int at) {
            int room = Math.max(0, Math.min(length, row.length - at));
            System.arraycopy(bytes, from, row, at, room);
            return at + room;
        }
    }

    /** A text with the place that is read next, and the place where it was found broken. */
    private static final class Reader {
        final byte[] bytes;
        int at = 0;
        int brokenAt = -1;

        Reader(byte[] tape, int length) {
            bytes = Arrays.copyOf(tape, length);
        }

        void failAt(int where) throws UnsupportedOperationException {
            brokenAt = where;
            throw new UnsupportedOperationException("the text is broken");
        }

        int here() {
            return at < bytes.length ? bytes[at] & 255 : END;
        }

        int nextSign() {
            while (at < bytes.length && isBlank(bytes[at])) {
                at++;
            }
            return at < bytes.length ? bytes[at] & 255 : END;
        }

        void expect(char due) throws UnsupportedOperationException {
            if (here() != due) {
                failAt(at);
            }
            at++;
        }

        void expectSign(char due) throws UnsupportedOperationException {
            if (nextSign() != due) {
                failAt(at);
            }
            at++;
        }

        Slice readName() throws UnsupportedOperationException {
            int from = at;
            if (!isSmall(here())) {
                failAt(from);
            }
            while (at < bytes.length && (isSmall(bytes[at]) || isDigit(bytes[at]))) {
                at++;
            }
            if (at - from > LONGEST_NAME) {
                failAt(from);
            }
            return new Slice(bytes, from, at - from);
        }

        int readNumber() throws UnsupportedOperationException {
            int from = at;
            int number = 0;
            while (at < bytes.length && isDigit(bytes[at])) {
                number = number * 10 + (bytes[at] - '0');
                at++;
            }
            if (at == from || at - from > LONGEST_NUMBER) {
                failAt(from);
            }
            return number;
        }

        /** The slice is without the marks around it. */
        Slice readString() throws UnsupportedOperationException {
            int from = at;
            if (here() != '"') {
                failAt(from);
            }
            at++;
            while (at < bytes.length && bytes[at] != '"' && isPrinted(bytes[at])) {
                at++;
            }
            if (here() != '"') {
                failAt(from);
            }
            at++;
            return new Slice(bytes, from + 1, at - from - 2);
        }

        void skipComment() throws UnsupportedOperationException {
            while (at + 2 < bytes.length && !commentEndsHere()) {
                at++;
            }
            if (at + 2 >= bytes.length) {
                failAt(bytes.length);
            }
            at += 3;
        }

        private boolean commentEndsHere() {
            return bytes[at] == '-' && bytes[at + 1] == '-' && bytes[at + 2] == '>';
        }
    }

    /** A field of an element, or an entity. */
    private static final class Named {
        final Slice name;
        final Slice text;

        Named(Slice name, Slice text) {
            this.name = name;
            this.text = text;
        }
    }

    private static final class Element {
        final Slice name;
        final Element parent;
        final Element before;
        final int index;
        final int number;
        final int depth;
        final int begin;
        final ArrayList<Named> fields = new ArrayList<>();
        Element lastChild = null;
        int children = 0;
        boolean followed = false;
        boolean hasText = false;
        int end = 0;
        int firstText = 0;
        int endText = 0;

        /** Without a parent it is the root, which is no element of the source. */
        Element(Slice name, Element parent, int index, int begin) {
            this.name = name;
            this.parent = parent;
            this.before = parent == null ? null : parent.lastChild;
            this.index = index;
            this.number = parent == null ? 0 : parent.children + 1;
            this.depth = parent == null ? -1 : parent.depth + 1;
            this.begin = begin;
        }

        boolean isEmpty() {
            return children == 0 && !hasText;
        }
    }

    /** The elements of a text, and the runs of text in them in the order in which they stand. */
    private static final class Source {
        final ArrayList<Element> elements = new ArrayList<>();
        final ArrayList<Slice> texts = new ArrayList<>();
        final ArrayList<Named> entities = new ArrayList<>();
        /** What is in no element is in the root, so that it has neighbours as all others have. */
        final Element root = new Element(new Slice(KNOWN, 0, 0), null, -1, 0);
        Element open = root;

        Source() {
            entities.add(new Named(new Slice(KNOWN, 0, 2), new Slice(KNOWN, 2, 1)));
            entities.add(new Named(new Slice(KNOWN, 3, 3), new Slice(KNOWN, 6, 1)));
        }

        void readPiece(Reader reader) throws UnsupportedOperationException {
            int from = reader.at;
            int first = reader.here();
            if (first == '<') {
                reader.at++;
                readMarkup(reader, from);
            } else if (first == '&') {
                reader.at++;
                readReference(reader);
            } else {
                readText(reader);
            }
        }

        private void readMarkup(Reader reader, int begin) throws UnsupportedOperationException {
            int second = reader.here();
            if (second == '/') {
                readEndOfElement(reader);
            } else if (second != '!') {
                readBeginOfElement(reader, begin);
            } else {
                reader.at++;
                if (reader.here() == '-') {
                    reader.at++;
                    reader.expect('-');
                    reader.skipComment();
                } else {
                    readEntity(reader);
                }
            }
        }

        private void readText(Reader reader) throws UnsupportedOperationException {
            int from = reader.at;
            while (reader.at < reader.bytes.length && isText(reader.bytes[reader.at])) {
                reader.at++;
            }
            if (reader.at == from) {
                reader.failAt(from);
            }
            addText(new Slice(reader.bytes, from, reader.at - from));
        }

        private static boolean isText(int b) {
            return b == 10 || isPrinted(b) && b != '<' && b != '&';
        }

        private void readReference(Reader reader) throws UnsupportedOperationException {
            Slice name = reader.readName();
            Named entity = findNamed(entities, name);
            if (entity == null) {
                reader.failAt(name.from);
                return;
            }
            reader.expect(';');
            addText(entity.text);
        }

        private void addText(Slice text) {
            // Nobody can ask for text that is in no element.
            if (text.length > 0 && open != root) {
                texts.add(text);
                open.hasText = true;
            }
        }

        private void readEntity(Reader reader) throws UnsupportedOperationException {
            Slice name = reader.readName();
            boolean full = entities.size() >= MOST_ENTITIES + ALWAYS_KNOWN;
            if (full || findNamed(entities, name) != null) {
                reader.failAt(name.from);
            }
            reader.nextSign();
            int from = reader.at;
            Slice text = reader.readString();
            if (text.holds('<') || text.holds('&')) {
                reader.failAt(from);
            }
            reader.expectSign('>');
            entities.add(new Named(name, text));
        }

        private void readBeginOfElement(Reader reader, int begin) throws UnsupportedOperationException {
            Slice name = reader.readName();
            Element element = new Element(name, open, elements.size(), begin);
            if (elements.size() >= MOST_ELEMENTS || element.depth >= MOST_NESTED) {
                reader.failAt(name.from);
            }
            readFields(reader, element);
            elements.add(element);
            element.firstText = texts.size();
            open.lastChild = element;
            open.children++;
            if (element.before != null) {
                element.before.followed = true;
            }
            if (reader.nextSign() == '/') {
                reader.at++;
                reader.expectSign('>');
                finish(element, reader.at);
            } else {
                reader.expectSign('>');
                open = element;
            }
        }

        private void readFields(Reader reader, Element element) throws UnsupportedOperationException {
            for (int k = 0; k <= MOST_FIELDS; k++) {
                int behindFormer = reader.at;
                if (!isSmall(reader.nextSign())) {
                    return;
                }
                if (reader.at == behindFormer || k == MOST_FIELDS) {
                    reader.failAt(reader.at);
                }
                Slice name = reader.readName();
                if (findNamed(element.fields, name) != null) {
                    reader.failAt(name.from);
                }
                reader.expectSign('=');
                reader.nextSign();
                element.fields.add(new Named(name, reader.readString()));
            }
        }

        private void readEndOfElement(Reader reader) throws UnsupportedOperationException {
            if (open == root) {
                reader.failAt(reader.at);
            }
            reader.at++;
            Slice name = reader.readName();
            if (!name.sameAs(open.name)) {
                reader.failAt(name.from);
            }
            reader.expectSign('>');
            finish(open, reader.at);
            open = open.parent == null ? root : open.parent;
        }

        private void finish(Element element, int end) {
            element.end = end;
            element.endText = texts.size();
        }
    }

    /** What stands in brackets or behind a colon. */
    private static final class Condition {
        int kind = HAS_FIELD;
        Slice name = null;
        /** What the field must be; null if it need only be there. */
        Slice text = null;
        int number = 0;

        void readBracket(Reader reader) throws UnsupportedOperationException {
            reader.nextSign();
            name = reader.readName();
            if (reader.nextSign() == '=') {
                reader.at++;
                reader.nextSign();
                text = reader.readString();
            }
            reader.expectSign(']');
        }

        void readColon(Reader reader) throws UnsupportedOperationException {
            reader.nextSign();
            Slice word = reader.readName();
            if (word.spells("first")) {
                kind = IS_FIRST;
            } else if (word.spells("last")) {
                kind = IS_LAST;
            } else if (word.spells("empty")) {
                kind = IS_EMPTY;
            } else if (word.spells("nth")) {
                kind = IS_NTH;
                reader.expectSign('(');
                reader.nextSign();
                number = reader.readNumber();
                reader.expectSign(')');
            } else if (word.spells("not")) {
                kind = IS_NOT;
                reader.expectSign('(');
                reader.nextSign();
                name = reader.readName();
                reader.expectSign(')');
            } else {
                reader.failAt(word.from);
            }
        }

        boolean holdsFor(Element element) {
            switch (kind) {
                case IS_FIRST:
                    return element.number == 1;
                case IS_LAST:
                    return !element.followed;
                case IS_EMPTY:
                    return element.isEmpty();
                case IS_NTH:
                    return element.number == number;
                case IS_NOT:
                    return name != null && !element.name.sameAs(name);
                default:
                    return name != null && holdsForField(findNamed(element.fields, name));
            }
        }

        private boolean holdsForField(Named field) {
            return field != null && (text == null || field.text.sameAs(text));
        }
    }

    private static final class Step {
        /** The sign between the step ahead and this one. */
        final int link;
        /** Null if any will do. */
        Slice name = null;
        final ArrayList<Condition> conditions = new ArrayList<>();

        Step(int link) {
            this.link = link;
        }

        void readFrom(Reader reader) throws UnsupportedOperationException {
            if (reader.nextSign() == '*') {
                reader.at++;
            } else {
                name = reader.readName();
            }
            for (int k = 0; k <= MOST_CONDITIONS; k++) {
                int sign = reader.nextSign();
                if (sign != '[' && sign != ':') {
                    return;
                }
                if (k == MOST_CONDITIONS) {
                    reader.failAt(reader.at);
                }
                reader.at++;
                Condition condition = new Condition();
                if (sign == '[') {
                    condition.readBracket(reader);
                } else {
                    condition.readColon(reader);
                }
                conditions.add(condition);
            }
        }

        int ownWeight() {
            return (name == null ? 0 : 1) + WEIGHT_OF_CONDITION * conditions.size();
        }

        boolean matches(Element element) {
            if (name != null && !name.sameAs(element.name)) {
                return false;
            }
            for (int i = 0; i < conditions.size(); i++) {
                if (!conditions.get(i).holdsFor(element)) {
                    return false;
                }
            }
            return true;
        }
    }

    private static final class Selector {
        final ArrayList<Step> steps = new ArrayList<>();
        int weight = 0;

        void readSteps(Reader reader) throws UnsupportedOperationException {
            int link = END;
            for (int k = 0; k <= MOST_STEPS; k++) {
                reader.nextSign();
                if (k == MOST_STEPS) {
                    reader.failAt(reader.at);
                }
                Step step = new Step(link);
                step.readFrom(reader);
                steps.add(step);
                weight += step.ownWeight();
                link = reader.nextSign();
                if (link != '>' && link != '/' && link != '+') {
                    return;
                }
                reader.at++;
            }
        }

        /**
         * Goes from the last step to the first with all elements that may be meant at once. At every
         * depth that is one at most, so that a row by depth has room for them: each is one that the
         * element is in (or itself), or stands before that in the same one.
         */
        boolean matches(Element element, Element[] reach) {
            int last = steps.size() - 1;
            if (last < 0 || !steps.get(last).matches(element)) {
                return false;
            }
            int deepest = Math.min(element.depth, reach.length - 1);
            for (int d = 0; d <= deepest; d++) {
                reach[d] = d == element.depth ? element : null;
            }
            boolean any = true;
            for (int k = last - 1; k >= 0 && any; k--) {
                moveBack(reach, deepest, steps.get(k + 1).link);
                any = false;
                for (int d = 0; d <= deepest; d++) {
                    if (reach[d] != null && !steps.get(k).matches(reach[d])) {
                        reach[d] = null;
                    }
                    any = any || reach[d] != null;
                }
            }
            return any;
        }

        private static void moveBack(Element[] reach, int deepest, int link) {
            if (link == '+') {
                for (int d = 0; d <= deepest; d++) {
                    reach[d] = reach[d] == null ? null : reach[d].before;
                }
                return;
            }
            Element deeper = null;
            for (int d = deepest; d >= 0; d--) {
                Element outer = deeper == null ? null : deeper.parent;
                // What the deepest one is in, all others of the row are in too, as far as they are deep.
                deeper = link == '/' && outer != null ? outer : reach[d];
                reach[d] = outer;
            }
        }
    }

    /** A property as a rule tells it. */
    private static final class Told {
        final int index;
        final int which;
        int kind = KIND_NONE;
        Slice text = null;
        int number = 0;
        /** Hundredths of what it is further out; 0 if it is told outright. */
        int share = 0;
        boolean strong = false;

        Told(int index, int which) {
            this.index = index;
            this.which = which;
        }

        void readValue(Reader reader) throws UnsupportedOperationException {
            int sign = reader.nextSign();
            if (sign == '"') {
                kind = KIND_STRING;
                text = reader.readString();
            } else if (isDigit(sign)) {
                kind = KIND_NUMBER;
                readAmount(reader);
            } else {
                kind = KIND_NAME;
                text = reader.readName();
            }
            if (reader.nextSign() == '!') {
                reader.at++;
                strong = true;
            }
        }

        private void readAmount(Reader reader) throws UnsupportedOperationException {
            int from = reader.at;
            number = reader.readNumber();
            if (reader.nextSign() == '%') {
                if (number < 1 || number > GREATEST_SHARE) {
                    reader.failAt(from);
                }
                reader.at++;
                share = number;
            }
        }

        boolean leansOnOuter() {
            return share > 0 || kind == KIND_NAME && text != null && text.spells("up");
        }
    }

    /** The selectors ahead of a body, and the properties told in it. */
    private static final class Rule {
        final ArrayList<Selector> selectors = new ArrayList<>();
        final ArrayList<Told> allTold = new ArrayList<>();

        /** The greatest weight of the selectors that fit the element; -1 if none does. */
        int weightFor(Element element, Element[] reach) {
            int weight = -1;
            for (int i = 0; i < selectors.size(); i++) {
                Selector selector = selectors.get(i);
                if (selector.weight > weight && selector.matches(element, reach)) {
                    weight = selector.weight;
                }
            }
            return weight;
        }

        /** All that one rule tells has one weight, so that one of each name can count at most. */
        Told leading(int which) {
            Told leading = null;
            for (int i = 0; i < allTold.size(); i++) {
                Told told = allTold.get(i);
                if (told.which == which && (leading == null || told.strong || !leading.strong)) {
                    leading = told;
                }
            }
            return leading;
        }
    }

    private static final class Style {
        final ArrayList<Rule> rules = new ArrayList<>();
        final ArrayList<Selector> selectors = new ArrayList<>();
        final ArrayList<Slice> names = new ArrayList<>();
        int toldCount = 0;

        void readSelectors(Reader reader, Rule rule) throws UnsupportedOperationException {
            for (int k = 0; k <= MOST_SELECTORS; k++) {
                reader.nextSign();
                if (selectors.size() >= MOST_SELECTORS) {
                    reader.failAt(reader.at);
                }
                Selector selector = new Selector();
                selector.readSteps(reader);
                selectors.add(selector);
                rule.selectors.add(selector);
                if (reader.nextSign() != ',') {
                    return;
                }
                reader.at++;
            }
        }

        void readBody(Reader reader, Rule rule) throws UnsupportedOperationException {
            reader.expectSign('{');
            for (int k = 0; k <= MOST_TOLD && reader.nextSign() != '}'; k++) {
                rule.allTold.add(readTold(reader));
            }
            reader.expectSign('}');
            rules.add(rule);
        }

        private Told readTold(Reader reader) throws UnsupportedOperationException {
            Slice name = reader.readName();
            int which = numberOfName(name);
            if (which < 0) {
                which = names.size();
                names.add(name);
            }
            if (toldCount >= MOST_TOLD || names.size() > MOST_PROPERTIES) {
                reader.failAt(name.from);
            }
            reader.expectSign(':');
            Told told = new Told(toldCount, which);
            toldCount++;
            told.readValue(reader);
            reader.expectSign(';');
            return told;
        }

        /** -1 if no rule tells a property of that name. */
        int numberOfName(Slice name) {
            for (int i = 0; i < names.size(); i++) {
                if (names.get(i).sameAs(name)) {
                    return i;
                }
            }
            return -1;
        }

        /** Null if none is told for the element, and for the root. */
        Told countingFor(Element element, int which, Element[] reach) {
            Told best = null;
            int bestWeight = 0;
            for (int i = 0; element.parent != null && i < rules.size(); i++) {
                Told told = rules.get(i).leading(which);
                int weight = told == null ? -1 : rules.get(i).weightFor(element, reach);
                if (weight >= 0 && (best == null || isAhead(told, weight, best, bestWeight))) {
                    best = told;
                    bestWeight = weight;
                }
            }
            return best;
        }

        private static boolean isAhead(Told later, int laterWeight, Told former, int formerWeight) {
            return later.strong == former.strong ? laterWeight >= formerWeight : later.strong;
        }
    }
}
