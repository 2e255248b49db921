import java.nio.charset.StandardCharsets;
import java.util.ArrayList;
import java.util.List;
import java.util.Random;

/**
 * Small pages and styles, made by a fixed row of numbers: what the class answers is held against the
 * plainest way to say the same. Then texts are spoilt, to see that nothing else is ever thrown, that
 * nothing changes, and that all ahead of the place where a text is broken could stand.
 */
public final class StyleCourtAgainstPlain {
    private static final String[] NAMES = {"a", "b", "c", "a1"};
    private static final String[] STRINGS = {"", "x", "x y", "<&>"};
    private static final String[] PROPERTIES = {"s", "t", "color"};
    private static final int MOST_CALLS = 512;

    private static final Random DICE = new Random(20261115);
    private static int wrong = 0;

    private static final class Node {
        String name;
        final List<String[]> fields = new ArrayList<>();
        Node parent;
        Node before;
        final List<Node> children = new ArrayList<>();
        final StringBuilder text = new StringBuilder();
        boolean hasText;
        int index;
        int begin;
        int end;

        List<Node> siblings(List<Node> tops) {
            return parent == null ? tops : parent.children;
        }

        int depth() {
            return parent == null ? 0 : parent.depth() + 1;
        }

        String field(String asked) {
            for (String[] field : fields) {
                if (field[0].equals(asked)) {
                    return field[1];
                }
            }
            return null;
        }
    }

    private static final class Page {
        final StringBuilder text = new StringBuilder();
        final List<Node> all = new ArrayList<>();
        final List<Node> tops = new ArrayList<>();
        final List<String[]> entities = new ArrayList<>();
    }

    private static final class Condition {
        String kind;
        String name;
        String string;
        int number;
    }

    private static final class Step {
        String link;
        String name;
        final List<Condition> conditions = new ArrayList<>();
    }

    private static final class Told {
        String name;
        int kind;
        String value;
        boolean share;
        boolean strong;
        int index;
        final List<List<Step>> selectors = new ArrayList<>();
    }

    private static final class Style {
        final StringBuilder text = new StringBuilder();
        final List<List<Step>> selectors = new ArrayList<>();
        final List<Told> told = new ArrayList<>();
    }

    /** An object that is made anew before its calls are used up. */
    private static final class Bench {
        final String source;
        final String style;
        StyleCourt x;
        int left = 0;

        Bench(String source, String style) {
            this.source = source;
            this.style = style;
        }

        StyleCourt ready(int calls) {
            if (left < calls) {
                x = new StyleCourt();
                put(x, source);
                x.source();
                put(x, style);
                x.style();
                left = MOST_CALLS - 8 - (source.length() + style.length()) / 20;
            }
            left -= calls;
            return x;
        }
    }

    public static void main(String[] args) {
        for (int i = 0; i < 400; i++) {
            Page page = page();
            Style style = style();
            Bench bench = new Bench(page.text.toString(), style.text.toString());
            checkElements(page, bench);
            checkSelectors(page, style, bench);
            checkProperties(page, style, bench);
            checkSpoilt(page.text.toString(), style.text.toString());
        }
        System.out.println(wrong == 0 ? "all answers are as due" : wrong + " answers are not as due");
        if (wrong != 0) {
            System.exit(1);
        }
    }

    // Making a page

    private static Page page() {
        Page page = new Page();
        int pieces = 1 + DICE.nextInt(4);
        for (int i = 0; i < pieces; i++) {
            piece(page, null, 0);
        }
        return page;
    }

    private static void piece(Page page, Node open, int depth) {
        int kind = DICE.nextInt(10);
        if (kind < 6) {
            node(page, open, depth);
        } else if (kind == 6) {
            page.text.append("<!--").append(DICE.nextInt(2) == 0 ? "" : " <a> - & \u0001").append("-->");
        } else if (kind == 7 && page.entities.size() < 40) {
            String[] entity = {"e" + page.entities.size(), DICE.nextInt(2) == 0 ? "" : "E" + page.entities.size()};
            page.entities.add(entity);
            page.text.append("<!").append(entity[0]).append(blank()).append('"').append(entity[1]).append('"')
                    .append(blank()).append('>');
        } else if (kind == 8 && !page.entities.isEmpty()) {
            String[] entity = page.entities.get(DICE.nextInt(page.entities.size()));
            page.text.append('&').append(entity[0]).append(';');
            addText(open, entity[1]);
        } else {
            String[][] texts = {{"t", "t"}, {" ", " "}, {"\n>\"", "\n>\""}, {"&lt;", "<"}, {"u&amp;", "u&"}};
            String[] text = texts[DICE.nextInt(texts.length)];
            page.text.append(text[0]);
            addText(open, text[1]);
        }
    }

    private static void addText(Node open, String text) {
        if (open != null && !text.isEmpty()) {
            open.hasText = true;
        }
        for (Node node = open; node != null; node = node.parent) {
            node.text.append(text);
        }
    }

    private static void node(Page page, Node open, int depth) {
        if (page.all.size() >= 40 || depth >= 20) {
            return;
        }
        Node node = new Node();
        node.name = any(NAMES);
        node.parent = open;
        List<Node> siblings = node.siblings(page.tops);
        node.before = siblings.isEmpty() ? null : siblings.get(siblings.size() - 1);
        siblings.add(node);
        node.index = page.all.size();
        page.all.add(node);
        node.begin = page.text.length();
        page.text.append('<').append(node.name);
        int fields = DICE.nextInt(3);
        for (int i = 0; i < fields; i++) {
            String name = any(NAMES);
            if (node.field(name) == null) {
                node.fields.add(new String[] {name, any(STRINGS)});
                page.text.append(' ').append(blank()).append(name).append(blank()).append('=').append(blank())
                        .append('"').append(node.field(name)).append('"');
            }
        }
        page.text.append(blank());
        if (DICE.nextInt(4) == 0) {
            page.text.append('/').append(blank()).append('>');
        } else {
            page.text.append('>');
            int pieces = DICE.nextInt(5);
            for (int i = 0; i < pieces; i++) {
                piece(page, node, depth + 1);
            }
            page.text.append("</").append(node.name).append(blank()).append('>');
        }
        node.end = page.text.length();
    }

    // Making a style

    private static Style style() {
        Style style = new Style();
        int rules = DICE.nextInt(8);
        for (int r = 0; r < rules; r++) {
            int firstTold = style.told.size();
            int count = 1 + DICE.nextInt(3);
            List<List<Step>> own = new ArrayList<>();
            for (int s = 0; s < count; s++) {
                style.text.append(s == 0 ? "" : ",");
                List<Step> selector = selector(3);
                own.add(selector);
                style.text.append(blank()).append(written(selector)).append(blank());
            }
            style.selectors.addAll(own);
            style.text.append('{');
            int tolds = DICE.nextInt(4);
            for (int t = 0; t < tolds; t++) {
                Told told = told();
                told.index = firstTold + t;
                told.selectors.addAll(own);
                style.told.add(told);
                style.text.append(blank()).append(told.name).append(blank()).append(':').append(blank())
                        .append(told.kind == 3 ? "\"" + told.value + "\"" : told.value)
                        .append(told.share ? blank() + "%" : "").append(told.strong ? blank() + "!" : "")
                        .append(blank()).append(';');
            }
            style.text.append(blank()).append('}').append(blank());
        }
        return style;
    }

    private static Told told() {
        Told told = new Told();
        told.name = any(PROPERTIES);
        told.strong = DICE.nextInt(6) == 0;
        int kind = DICE.nextInt(7);
        told.kind = kind < 2 ? 1 : kind < 6 ? 2 : 3;
        told.share = kind >= 4 && told.kind == 2;
        if (told.kind == 1) {
            told.value = DICE.nextInt(3) == 0 ? "red" : "up";
        } else if (told.kind == 3) {
            told.value = any(STRINGS);
        } else {
            int[] numbers = {1, 33, 150, 999, 1000, 9999999, 7};
            told.value = Integer.toString(numbers[DICE.nextInt(told.share ? 5 : 7)]);
        }
        return told;
    }

    private static List<Step> selector(int most) {
        List<Step> steps = new ArrayList<>();
        int count = 1 + DICE.nextInt(most);
        for (int k = 0; k < count; k++) {
            Step step = new Step();
            step.link = any(new String[] {">", "/", "/", "+"});
            step.name = DICE.nextInt(2) == 0 ? "*" : any(NAMES);
            int conditions = DICE.nextInt(4) == 0 ? DICE.nextInt(5) : 0;
            for (int c = 0; c < conditions; c++) {
                Condition condition = new Condition();
                condition.kind = any(new String[] {"has", "is", "first", "last", "empty", "nth", "not"});
                condition.name = any(NAMES);
                condition.string = any(STRINGS);
                condition.number = DICE.nextInt(4);
                step.conditions.add(condition);
            }
            steps.add(step);
        }
        return steps;
    }

    private static String written(List<Step> selector) {
        StringBuilder text = new StringBuilder();
        for (int k = 0; k < selector.size(); k++) {
            Step step = selector.get(k);
            text.append(k == 0 ? "" : blank() + step.link + blank()).append(step.name);
            for (Condition c : step.conditions) {
                text.append(blank());
                switch (c.kind) {
                    case "has" -> text.append("[").append(blank()).append(c.name).append("]");
                    case "is" -> text.append("[").append(c.name).append(blank()).append("=").append(blank())
                            .append('"').append(c.string).append('"').append(blank()).append("]");
                    case "nth" -> text.append(":nth").append(blank()).append("(").append(c.number).append(")");
                    case "not" -> text.append(":").append(blank()).append("not(").append(c.name).append(blank())
                            .append(")");
                    default -> text.append(":").append(c.kind);
                }
            }
        }
        return text.toString();
    }

    // The plain way to say what is due

    private static boolean stepFits(Step step, Node node, Page page) {
        if (!step.name.equals("*") && !step.name.equals(node.name)) {
            return false;
        }
        List<Node> siblings = node.siblings(page.tops);
        int number = siblings.indexOf(node) + 1;
        for (Condition c : step.conditions) {
            boolean holds = switch (c.kind) {
                case "has" -> node.field(c.name) != null;
                case "is" -> c.string.equals(node.field(c.name));
                case "first" -> number == 1;
                case "last" -> number == siblings.size();
                case "empty" -> node.children.isEmpty() && !node.hasText;
                case "nth" -> number == c.number;
                default -> !c.name.equals(node.name);
            };
            if (!holds) {
                return false;
            }
        }
        return true;
    }

    private static boolean fits(List<Step> selector, int k, Node node, Page page) {
        if (node == null || !stepFits(selector.get(k), node, page)) {
            return false;
        }
        if (k == 0) {
            return true;
        }
        switch (selector.get(k).link) {
            case ">":
                return fits(selector, k - 1, node.parent, page);
            case "+":
                return fits(selector, k - 1, node.before, page);
            default:
                for (Node outer = node.parent; outer != null; outer = outer.parent) {
                    if (fits(selector, k - 1, outer, page)) {
                        return true;
                    }
                }
                return false;
        }
    }

    private static boolean fits(List<Step> selector, Node node, Page page) {
        return fits(selector, selector.size() - 1, node, page);
    }

    private static int weight(List<Step> selector) {
        int weight = 0;
        for (Step step : selector) {
            weight += (step.name.equals("*") ? 0 : 1) + 100 * step.conditions.size();
        }
        return weight;
    }

    private static Told counting(String name, Node node, Page page, Style style) {
        Told best = null;
        long bestRank = -1;
        for (Told told : style.told) {
            for (List<Step> selector : told.selectors) {
                if (told.name.equals(name) && fits(selector, node, page)) {
                    long rank = (told.strong ? 100000000000L : 0) + weight(selector) * 10000L + told.index;
                    if (rank > bestRank) {
                        bestRank = rank;
                        best = told;
                    }
                }
            }
        }
        return best;
    }

    /** The kind, a blank, and the value. */
    private static String value(String name, Node node, Page page, Style style) {
        Told told = node == null ? null : counting(name, node, page, style);
        if (told == null) {
            return "0 ";
        }
        if (told.kind == 1 && told.value.equals("up")) {
            return value(name, node.parent, page, style);
        }
        if (!told.share) {
            return told.kind + " " + told.value;
        }
        String outer = value(name, node.parent, page, style);
        if (!outer.startsWith("2 ")) {
            return "0 ";
        }
        long product = Long.parseLong(outer.substring(2)) * Long.parseLong(told.value);
        return "2 " + Math.min(product / 100, 9999999);
    }

    // Holding the answers against it

    private static void checkElements(Page page, Bench bench) {
        due("elements", page.all.size(), bench.ready(1).count(4));
        for (Node node : page.all) {
            int e = node.index;
            List<Node> siblings = node.siblings(page.tops);
            int[] due = {siblings.indexOf(node) + 1, node.parent == null ? -1 : node.parent.index,
                node.before == null ? -1 : node.before.index, node.children.size(), node.depth(), node.fields.size(),
                node.children.isEmpty() && !node.hasText ? 1 : 0, node.begin, node.end};
            for (int what = 0; what < due.length; what++) {
                due(bench.source + " element " + e + " " + what, due[what], bench.ready(1).element(e, what));
            }
            dueTold(bench, e, 0, node.name);
            dueTold(bench, e, 1, node.text.toString());
            for (int i = 0; i < node.fields.size(); i++) {
                dueTold(bench, e, 2 + 2 * i, node.fields.get(i)[0]);
                dueTold(bench, e, 3 + 2 * i, node.fields.get(i)[1]);
            }
        }
    }

    private static void dueTold(Bench bench, int e, int part, String due) {
        StyleCourt x = bench.ready(3 + due.length() / 8);
        due(bench.source + " tell " + e + " " + part, due.length(), x.tell(e, part));
        due(bench.source + " tell " + e + " " + part, due, out(x));
    }

    private static void checkSelectors(Page page, Style style, Bench bench) {
        due(bench.style + " selectors", style.selectors.size(), bench.ready(1).count(2));
        for (int s = 0; s < style.selectors.size(); s++) {
            List<Step> selector = style.selectors.get(s);
            due(bench.style + " weight " + s, weight(selector), bench.ready(1).count(10 + s));
            for (Node node : page.all) {
                due(bench.style + " fits " + s + " " + node.index, fits(selector, node, page) ? 1 : 0,
                        bench.ready(1).fits(s, node.index));
            }
        }
        for (int i = 0; i < 6; i++) {
            List<Step> selector = selector(8);
            String text = written(selector);
            StyleCourt x = bench.ready(5 + page.all.size() + text.length() / 20);
            put(x, text);
            int n = x.select();
            StringBuilder due = new StringBuilder();
            StringBuilder got = new StringBuilder();
            for (Node node : page.all) {
                due.append(fits(selector, node, page) ? node.index + " " : "");
            }
            for (int k = 0; k < n; k++) {
                got.append(x.found(k)).append(" ");
            }
            due(bench.source + " select " + text, due.toString(), got.toString());
            due(text + " weight", weight(selector), x.count(6));
        }
    }

    private static void checkProperties(Page page, Style style, Bench bench) {
        due(bench.style + " told", style.told.size(), bench.ready(1).count(3));
        for (Node node : page.all) {
            for (String name : PROPERTIES) {
                StyleCourt x = bench.ready(16);
                put(x, name);
                int kind = x.property(node.index);
                due(bench.source + bench.style + " property " + name + " of " + node.index,
                        value(name, node, page, style), kind + " " + out(x));
                put(x, name);
                Told told = counting(name, node, page, style);
                due(bench.source + bench.style + " by " + name + " of " + node.index,
                        told == null ? -1 : told.index, x.by(node.index));
            }
        }
    }

    private static void checkSpoilt(String source, String style) {
        for (int i = 0; i < 30; i++) {
            checkPlace(spoilt(source), 0);
            checkPlace(spoilt(style), 1);
            checkPlace(spoilt(written(selector(8))), 2);
        }
    }

    private static String spoilt(String text) {
        String signs = "<>/!-&;\"= \nab1{}:,%*[]+().~\u0000\u00e9";
        StringBuilder spoilt = new StringBuilder(text);
        int times = 1 + DICE.nextInt(2);
        for (int i = 0; i < times; i++) {
            int at = DICE.nextInt(spoilt.length() + 1);
            char sign = signs.charAt(DICE.nextInt(signs.length()));
            int way = DICE.nextInt(3);
            if (way == 0 || at == spoilt.length()) {
                spoilt.insert(at, sign);
            } else if (way == 1) {
                spoilt.setCharAt(at, sign);
            } else {
                spoilt.delete(at, Math.min(spoilt.length(), at + 1 + DICE.nextInt(5)));
            }
        }
        return spoilt.toString();
    }

    private static void checkPlace(String text, int reader) {
        int place = placeOf(text, reader);
        if (place < 0) {
            return;
        }
        if (place > text.length()) {
            due(text, "a place in it", "place " + place);
            return;
        }
        int cut = placeOf(text.substring(0, place), reader);
        if (cut != -1) {
            due(text + " cut at " + place, place, cut);
        }
    }

    private static int placeOf(String text, int reader) {
        StyleCourt x = new StyleCourt();
        put(x, "<a/>");
        x.source();
        put(x, "a{b:1;}");
        x.style();
        put(x, "a");
        x.select();
        put(x, text);
        String thrown = "nothing";
        try {
            if (reader == 0) {
                x.source();
            } else if (reader == 1) {
                x.style();
            } else {
                x.select();
            }
        } catch (RuntimeException e) {
            thrown = e.getClass().getSimpleName();
        }
        due(text + " leaves the tape", 0, x.count(0));
        if (thrown.equals("nothing")) {
            due(text + " place", -1, x.place());
            return -1;
        }
        due(text, "UnsupportedOperationException", thrown);
        due(text + " changes", "1 1 1 1 1", x.count(2) + " " + x.count(3) + " " + x.count(4) + " " + x.count(5)
                + " " + x.count(6));
        return x.place();
    }

    // What the tests are made of

    private static String any(String[] of) {
        return of[DICE.nextInt(of.length)];
    }

    private static String blank() {
        return DICE.nextInt(5) > 0 ? "" : DICE.nextInt(2) == 0 ? " " : "\n ";
    }

    private static void put(StyleCourt x, String text) {
        byte[] bytes = text.getBytes(StandardCharsets.ISO_8859_1);
        int[] row = new int[5];
        for (int from = 0; from < bytes.length; from += 20) {
            for (int k = 0; k < 20; k++) {
                row[k / 4] = row[k / 4] << 8 | (from + k < bytes.length ? bytes[from + k] & 255 : 0);
            }
            x.feed(row[0], row[1], row[2], row[3], row[4]);
        }
        x.end(bytes.length);
    }

    private static String out(StyleCourt x) {
        StringBuilder text = new StringBuilder();
        int length = x.count(1);
        for (int i = 0; i < length; i += 8) {
            long word = x.word(i);
            for (int k = i; k < i + 8 && k < length; k++) {
                text.append((char) (word >>> 56));
                word <<= 8;
            }
        }
        return text.toString();
    }

    private static void due(String what, Object due, Object got) {
        if (!due.equals(got)) {
            wrong++;
            System.out.println(what + " answered " + got + ", due is " + due);
        }
    }
}
