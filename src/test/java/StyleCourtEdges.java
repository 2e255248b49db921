import java.lang.reflect.Field;
import java.lang.reflect.Method;
import java.lang.reflect.Modifier;
import java.nio.charset.StandardCharsets;
import java.util.Arrays;
import java.util.TreeSet;

/**
 * Every sentence of the document that names an edge has a test of its own here, under its own words:
 * the last input that is taken, the first that is not, what is answered or thrown, and that a refused
 * call leaves all else as it was. No object is called more often than the document speaks of.
 */
public final class StyleCourtEdges {
    private static final int MOST_CALLS = 512;
    private static final String ARGUMENT = "IllegalArgumentException";
    private static final String INDEX = "IndexOutOfBoundsException";
    private static final String UNSUPPORTED = "UnsupportedOperationException";
    /** Numbers that are out of range wherever there are two at most. */
    private static final int[] FAR_OUT = {Integer.MIN_VALUE, -2, -1, 2, 3, Integer.MAX_VALUE};

    private static int wrong = 0;
    private static int asked = 0;
    private static String part = "";

    private interface Call {
        long answer();
    }

    public static void main(String[] args) throws Exception {
        whatItIs();
        face();
        tapeAndOut();
        signs();
        brokenPlaces();
        pieces();
        entities();
        comments();
        elementsOfSource();
        blanksOfSource();
        signsOfSource();
        styles();
        values();
        selectors();
        whatFits();
        whatCounts();
        whatItIsThere();
        thrown();
        promises();
        System.out.println(wrong == 0 ? "all " + asked + " answers are as due" : wrong + " answers are not as due");
        if (wrong != 0) {
            System.exit(1);
        }
    }

    // What it is, and the public face

    /** "An object is used for at most 512 calls after it has been made" */
    private static void whatItIs() {
        part = "512 calls";
        Court x = new Court();
        x.source("<a/>");
        while (x.calls < MOST_CALLS - 1) {
            x.count(4);
        }
        due("the 512th call", 1, x.count(4));
    }

    private static void face() throws Exception {
        part = "the public face";
        due("public and final", Modifier.PUBLIC | Modifier.FINAL, StyleCourt.class.getModifiers());
        due("constructors", 1, StyleCourt.class.getDeclaredConstructors().length);
        due("the constructor", "public StyleCourt()", StyleCourt.class.getDeclaredConstructors()[0].toString());
        for (Field field : StyleCourt.class.getDeclaredFields()) {
            due("private is " + field.getName(), true, Modifier.isPrivate(field.getModifiers()));
        }
        TreeSet<String> shown = new TreeSet<>();
        TreeSet<String> hidden = new TreeSet<>();
        for (Method method : StyleCourt.class.getDeclaredMethods()) {
            if (Modifier.isPrivate(method.getModifiers())) {
                hidden.add(method.getName());
            } else {
                shown.add(method.toString().replace("StyleCourt.", "").replace("java.lang.", ""));
            }
        }
        TreeSet<String> due = new TreeSet<>(Arrays.asList(
                "public int feed(int,int,int,int,int) throws IndexOutOfBoundsException",
                "public int end(int) throws IllegalArgumentException",
                "public int source() throws UnsupportedOperationException",
                "public int style() throws UnsupportedOperationException",
                "public int place()",
                "public int property(int) throws IllegalArgumentException",
                "public int by(int) throws IllegalArgumentException",
                "public int select() throws UnsupportedOperationException",
                "public int found(int) throws IndexOutOfBoundsException",
                "public int fits(int,int) throws IllegalArgumentException",
                "public int element(int,int) throws IllegalArgumentException",
                "public int tell(int,int) throws IllegalArgumentException,IndexOutOfBoundsException",
                "public long word(int) throws IndexOutOfBoundsException",
                "public int count(int) throws IllegalArgumentException"));
        due("its methods", due, shown);
        for (String name : new String[] {"feed", "end", "source", "style", "place", "property", "by", "select", "found",
                "fits", "element", "tell", "word", "count"}) {
            due("no private one is called " + name, false, hidden.contains(name));
        }
    }

    // Terms: THE TAPE and OUT

    private static void tapeAndOut() {
        tapeIsFull();
        outIsFull();
        readingEmptiesTheTape();
        otherCallsLeaveTheTape();
    }

    /** "THE TAPE has at most 8192 bytes" */
    private static void tapeIsFull() {
        part = "at most 8192 bytes of tape";
        Court x = new Court();
        x.put("a{}" + " ".repeat(8189));
        due("full", 8192, x.count(0));
        throwing("one feed more", INDEX, () -> x.feed(0, 0, 0, 0, 0));
        due("still full", 8192, x.count(0));
        due("what is on it is as it was", 1, x.style());
        due("read", 0, x.count(0));
        due("room again", 20, x.feed(0, 0, 0, 0, 0));
    }

    /** "OUT at most 16384" */
    private static void outIsFull() {
        part = "at most 16384 bytes of out";
        String entity = "<!k \"" + "0123456789abcdef".repeat(64) + "\">";
        Court x = new Court();
        x.source(entity + "<a><b>" + "&k;".repeat(15) + "0123456789abcdef".repeat(63) + "0123456789abcde</b><c>X</c>"
                + "<d>z</d></a>");
        due("one less than can be", 16383, x.tell(1, 1));
        due("its last byte", 0x65L << 56, x.word(16382));
        throwing("behind it", INDEX, () -> x.word(16383));

        Court y = new Court();
        y.source(entity + "<a><b>" + "&k;".repeat(16) + "</b><c>X</c></a>");
        due("as much as can be", 16384, y.tell(1, 1));
        due("as much as can be", 16384, y.count(1));
        due("its last byte", 0x66L << 56, y.word(16383));
        throwing("behind it", INDEX, () -> y.word(16384));
        throwing("one byte too much", INDEX, () -> y.tell(0, 1));
        due("out is as it was", 16384, y.count(1));
        due("out is as it was", 0x3031323334353637L, y.word(0));
        due("out is as it was", 0x66L << 56, y.word(16383));
    }

    /** "A call that reads THE TAPE leaves it empty, also if it throws." */
    private static void readingEmptiesTheTape() {
        part = "reading empties the tape";
        Court x = lived();
        x.put("<a/>");
        x.source();
        due("source", 0, x.count(0));
        x.put("a{s:1;}");
        x.style();
        due("style", 0, x.count(0));
        x.put("a");
        x.select();
        due("select", 0, x.count(0));
        x.put("s");
        x.property(0);
        due("property", 0, x.count(0));
        x.put("s");
        x.by(0);
        due("by", 0, x.count(0));
        x.put("<a");
        throwing("source", UNSUPPORTED, x::source);
        due("source that throws", 0, x.count(0));
        x.put("a{");
        throwing("style", UNSUPPORTED, x::style);
        due("style that throws", 0, x.count(0));
        x.put("a[");
        throwing("select", UNSUPPORTED, x::select);
        due("select that throws", 0, x.count(0));
        x.put("s");
        throwing("property", ARGUMENT, () -> x.property(1));
        due("property that throws", 0, x.count(0));
        x.put("s");
        throwing("by", ARGUMENT, () -> x.by(1));
        due("by that throws", 0, x.count(0));
    }

    private static void otherCallsLeaveTheTape() {
        part = "other calls leave the tape";
        Court x = lived();
        x.put("<q/>");
        x.place();
        x.found(0);
        x.fits(0, 0);
        x.element(0, 0);
        x.tell(0, 0);
        x.word(0);
        x.count(0);
        throwing("found", INDEX, () -> x.found(9));
        throwing("fits", ARGUMENT, () -> x.fits(9, 9));
        throwing("element", ARGUMENT, () -> x.element(9, 9));
        throwing("tell", ARGUMENT, () -> x.tell(9, 9));
        throwing("word", INDEX, () -> x.word(99));
        throwing("count", ARGUMENT, () -> x.count(9));
        throwing("end", ARGUMENT, () -> x.end(9));
        due("length", 4, x.count(0));
        due("what is on it", 1, x.source());
    }

    // Terms: SIGNS

    private static void signs() {
        blanksBetween();
        eachAsLongAsCanBe();
        firstByteOfName();
        laterByteOfName();
        digitsOfNumber();
        bytesOfString();
        otherBytes();
    }

    /** "with blanks (10, 32) between where one likes" */
    private static void blanksBetween() {
        part = "blanks between";
        String[] parts = {"a", "[", "b", "]", "[", "c", "=", "\"d e\"", "]", ":", "first", ">", "*", ":", "nth", "(", "1",
            ")", "/", "e", ":", "not", "(", "f", ")", "+", "g", ",", "h", "{", "i", ":", "j", ";", "k", ":", "50", "%",
            "!", ";", "l", ":", "\"m\"", "!", ";", "}"};
        styleTaken(String.join("", parts), 2, 3);
        styleTaken(String.join(" ", parts), 2, 3);
        styleTaken(String.join("\n", parts), 2, 3);
        styleTaken(" \n" + String.join(" \n \n", parts) + "\n ", 2, 3);
        // Nothing that is no blank may stand there instead.
        for (int at = 0; at <= parts.length; at++) {
            String ahead = String.join("", Arrays.copyOfRange(parts, 0, at));
            String behind = String.join("", Arrays.copyOfRange(parts, at, parts.length));
            for (char none : new char[] {0, 9, 11, 13, 31, 127, 160, 255}) {
                styleBroken(ahead + none + behind, ahead.length());
            }
        }
        selectorTaken(" \na\n [\n b ] > \n c \n", 102);
        selectorBroken("a\t", 1);
        selectorBroken("\ra", 0);
    }

    /** "SIGNS .., each as long as can be" */
    private static void eachAsLongAsCanBe() {
        part = "as long as can be";
        selectorBroken("a:firstlast", 2);
        selectorBroken("a:first1", 2);
        selectorTaken("a:first:last", 201);
        selectorBroken("a:nth(1 2)", 8);
        selectorBroken("ab c", 3);
        styleBroken("a{b:c d;}", 6);
        styleBroken("a{b:1 2;}", 6);
        styleBroken("a{b:1c;}", 5);
        styleTaken("a{b:c1;}", 1, 1);
        sourceBroken("&ampx;", 1);
        sourceBroken("<ab></a>", 6);
    }

    /** "NAME: a small letter, then .." */
    private static void firstByteOfName() {
        part = "first byte of a name";
        for (int b = 0; b < 256; b++) {
            String byItself = String.valueOf((char) b);
            if (isSmall(b) || b == '*') {
                styleTaken(byItself + "{}", 1, 0);
            } else {
                styleBroken(byItself + "{}", isBlank(b) ? 1 : 0);
            }
            if (isSmall(b)) {
                sourceTaken("<" + byItself + "/>", 1);
                sourceTaken("<a " + byItself + "=\"\"/>", 1);
                selectorTaken("a[" + byItself + "]", 101);
            } else {
                sourceBroken("<" + byItself + "/>", b == '!' ? 2 : 1);
                selectorBroken("a[" + byItself + "]", isBlank(b) ? 3 : 2);
            }
        }
    }

    /** ".., then small letters and digits" */
    private static void laterByteOfName() {
        part = "later byte of a name";
        for (int b = 0; b < 256; b++) {
            String name = "a" + (char) b;
            if (isSmall(b) || isDigit(b)) {
                styleTaken(name + "{}", 1, 0);
                sourceTaken("<" + name + "></" + name + ">", 1);
            } else if (isBlank(b)) {
                styleTaken(name + "{}", 1, 0);
                sourceTaken("<" + name + "/>", 1);
            } else {
                styleBroken(name + "{}", ">/+[:,{".indexOf(b) >= 0 ? 2 : 1);
                sourceBroken("<" + name + "/>", b == '/' ? 3 : b == '>' ? 5 : 2);
            }
        }
    }

    /** "NUMBER: 1 to 7 digits" */
    private static void digitsOfNumber() {
        part = "digits of a number";
        String digits = "12345678";
        for (int n = 1; n <= 7; n++) {
            String number = digits.substring(0, n);
            styleTaken("a{b:" + number + ";}", 1, 1);
            selectorTaken("a:nth(" + number + ")", 101);
            Court x = new Court();
            x.source("<a/>");
            x.style("a{b:" + number + ";}");
            due(number, "2 " + number, x.value(0, "b"));
        }
        styleBroken("a{b:;}", 4);
        styleBroken("a{b:" + digits + ";}", 4);
        styleBroken("a{b:00000000;}", 4);
        styleBroken("a{b:" + digits.repeat(20) + ";}", 4);
        selectorBroken("a:nth()", 6);
        selectorBroken("a:nth(" + digits + ")", 6);
        for (int b = 0; b < 256; b++) {
            String text = "a:nth(" + (char) b + ")";
            if (isDigit(b)) {
                selectorTaken(text, 101);
            } else {
                selectorBroken(text, isBlank(b) ? 7 : 6);
            }
        }
    }

    /** "STRING: ", then bytes 32 .. 126 but ", then "" */
    private static void bytesOfString() {
        part = "bytes of a string";
        styleTaken("a{b:\"\";}", 1, 1);
        sourceTaken("<a b=\"\"/>", 1);
        sourceTaken("<!e \"\">", 0);
        selectorTaken("a[b=\"\"]", 101);
        for (int b = 0; b < 256; b++) {
            char c = (char) b;
            boolean may = b >= 32 && b <= 126 && b != '"';
            // The second " ends the string: then the third is one sign too much, or begins one that has no end.
            if (may) {
                styleTaken("a{b:\"" + c + "\";}", 1, 1);
                sourceTaken("<a b=\"" + c + "\"/>", 1);
                selectorTaken("a[b=\"" + c + "\"]", 101);
                Court x = new Court();
                x.source("<a b=\"" + c + "\"/>");
                x.style("a[b=\"" + c + "\"]{b:\"" + c + "\";}");
                due("told " + b, "3 " + c, x.value(0, "b"));
                x.tell(0, 3);
                due("field " + b, String.valueOf(c), x.out());
            } else {
                styleBroken("a{b:\"" + c + "\";}", b == '"' ? 6 : 4);
                sourceBroken("<a b=\"" + c + "\"/>", b == '"' ? 7 : 5);
                selectorBroken("a[b=\"" + c + "\"]", b == '"' ? 6 : 4);
            }
            if (may && b != '<' && b != '&') {
                sourceTaken("<!e \"" + c + "\">", 0);
            } else {
                sourceBroken("<!e \"" + c + "\">", b == '"' ? 6 : 4);
            }
        }
    }

    /** "any other byte by itself" */
    private static void otherBytes() {
        part = "any other byte by itself";
        selectorBroken("a>>b", 2);
        selectorBroken("a>/b", 2);
        selectorBroken("a++b", 2);
        selectorBroken("a//b", 2);
        selectorBroken("**", 1);
        selectorBroken("a[[b]]", 2);
        selectorBroken("a[b]]", 4);
        selectorBroken("a::first", 2);
        selectorBroken("a[b==\"c\"]", 4);
        selectorBroken("a:nth((1))", 6);
        styleBroken("a,,b{}", 2);
        styleBroken("a{{}}", 2);
        styleBroken("a{}}", 3);
        styleBroken("a{b::c;}", 4);
        styleBroken("a{b:c;;}", 6);
        styleBroken("a{b:1%%;}", 6);
        styleBroken("a{b:c!!;}", 6);
        styleBroken("a{b:-1;}", 4);
        styleBroken("a{b:1.5;}", 5);
    }

    // Terms: where a text is BROKEN

    private static void brokenPlaces() {
        firstSignThatIsWrong();
        missingAtTheEnd();
        tooLongNames();
        tooLongNumbers();
        stringsWithoutEnd();
    }

    /** "BROKEN at the PLACE (from 0) of the first byte of the first SIGN that can't stand there, or .." */
    private static void firstSignThatIsWrong() {
        part = "the first sign that is wrong";
        styleBroken("]", 0);
        styleBroken("a{b:c;} ]", 8);
        styleBroken("a{b:c;} ab cd ef", 11);
        styleBroken("a{bcd:0%;}", 6);
        styleBroken("a{bcd: 1001 %;}", 7);
        selectorBroken("a: second", 3);
        sourceBroken("ab&cde;", 3);
        sourceBroken("<a bc=\"\" de=\"\" bc=\"\"/>", 15);
        sourceBroken("<!ab \"\"><!ab \"\">", 10);
        selectorBroken("a[b][b][b][b] [b]", 14);
        // Of two faults it is the first that counts.
        styleBroken("a{b:0%;c:1001%;}", 4);
        styleBroken("a{b:c;}}a{b:0%;}", 7);
        sourceBroken("&x;</a>", 1);
        sourceBroken("</a>&x;", 1);
        selectorBroken("a:no[b=c]", 2);
    }

    /** "its length at the end, if something is missing" */
    private static void missingAtTheEnd() {
        part = "something is missing at the end";
        String style = "a[b=\"c\"]:nth(1)>b:not(c),d{e:1%!;f:\"g\";h:i;}";
        TreeSet<Integer> whole = new TreeSet<>(Arrays.asList(0, style.length()));
        for (int n = 0; n <= style.length(); n++) {
            String text = style.substring(0, n);
            if (whole.contains(n)) {
                styleTaken(text, n == 0 ? 0 : 2, n == 0 ? 0 : 3);
            } else if (text.endsWith("[b=\"") || text.endsWith("[b=\"c")) {
                styleBroken(text, 4);
            } else if (text.endsWith("f:\"") || text.endsWith("f:\"g")) {
                styleBroken(text, text.lastIndexOf('"'));
            } else if (text.endsWith(":n") || text.endsWith(":nt") || text.endsWith(":no")) {
                styleBroken(text, text.lastIndexOf(':') + 1);
            } else {
                styleBroken(text, n);
                styleBroken(text + " \n", n + 2);
            }
        }
        selectorBroken("", 0);
        selectBroken(" \n ", 3);
        selectorBroken("a>", 2);
        sourceBroken("<", 1);
        sourceBroken("<a", 2);
        sourceBroken("<a ", 3);
        sourceBroken("<a b", 4);
        sourceBroken("<a b=", 5);
        sourceBroken("<a b=\"\"", 7);
        sourceBroken("<a/", 3);
        sourceBroken("<a>", 3);
        sourceBroken("<a>b", 4);
        sourceBroken("<a><b/>", 7);
        sourceBroken("<a><", 4);
        sourceBroken("<a></", 5);
        sourceBroken("<a></a", 6);
        sourceBroken("<a></a ", 7);
        sourceBroken("&", 1);
        sourceBroken("&lt", 3);
        sourceBroken("<!", 2);
        sourceBroken("<!a", 3);
        sourceBroken("<!a ", 4);
        sourceBroken("<!a \"\"", 6);
        sourceBroken("<!-", 3);
        sourceBroken("<!--", 4);
        sourceBroken("<!----", 6);
    }

    /** "NAMES longer than 12 .. BROKEN at their first byte" */
    private static void tooLongNames() {
        part = "names longer than 12";
        String last = "abcdefghijk1";
        String first = last + "m";
        selectorTaken(last, 1);
        selectorBroken(first, 0);
        selectorTaken("a > " + last, 2);
        selectorBroken("a > " + first, 4);
        selectorTaken("a[ " + last + " ]", 101);
        selectorBroken("a[ " + first + " ]", 3);
        selectorTaken("a:not( " + last + " )", 101);
        selectorBroken("a:not( " + first + " )", 7);
        selectorBroken("a: " + last, 3);
        selectorBroken("a: " + first, 3);
        styleTaken("a{" + last + ":1;}", 1, 1);
        styleBroken("a{" + first + ":1;}", 2);
        styleTaken("a{b:" + last + ";}", 1, 1);
        styleBroken("a{b:" + first + ";}", 4);
        styleBroken("a{b:" + first.repeat(300) + ";}", 4);
        sourceTaken("<" + last + "/>", 1);
        sourceBroken("<" + first + "/>", 1);
        sourceTaken("<" + last + "></" + last + ">", 1);
        sourceBroken("<" + last + "></" + first + ">", 16);
        sourceTaken("<a " + last + "=\"\"/>", 1);
        sourceBroken("<a " + first + "=\"\"/>", 3);
        sourceTaken("<!" + last + " \"\">&" + last + ";", 0);
        sourceBroken("<!" + first + " \"\">", 2);
        sourceBroken("<!" + last + " \"\">&" + first + ";", 19);
        Court x = new Court();
        x.source("<" + last + " " + last + "=\"\"/>");
        x.style("*{" + last + ":" + last + ";}");
        due("a name of 12", 12, x.tell(0, 0));
        due("a name of 12", last, x.out());
        due("a field of 12", 12, x.tell(0, 2));
        due("a property of 12", "1 " + last, x.value(0, last));
        due("a name of 13 is none", "0 ", x.value(0, first));
        due("nor is one of 11", "0 ", x.value(0, "abcdefghijk"));
    }

    /** "NUMBERS longer than 7 .. BROKEN at their first byte" */
    private static void tooLongNumbers() {
        part = "numbers longer than 7";
        styleTaken("a{b: 9999999 ;}", 1, 1);
        styleBroken("a{b: 10000000 ;}", 5);
        styleTaken("a{b: 0000000 ;}", 1, 1);
        styleBroken("a{b: 00000001 ;}", 5);
        styleTaken("a{b: 0001000 % ;}", 1, 1);
        styleBroken("a{b: 00001000 % ;}", 5);
        styleBroken("a{b: 4294967297 ;}", 5);
        styleBroken("a{b: 4294967297 % ;}", 5);
        selectorTaken("a:nth( 9999999 )", 101);
        selectorBroken("a:nth( 10000000 )", 7);
        selectorBroken("a:nth( 4294967297 )", 7);
    }

    /** "a STRING without its end (or with another byte ahead of it): BROKEN at their first byte" */
    private static void stringsWithoutEnd() {
        part = "strings without an end";
        styleBroken("a{b: \"", 5);
        styleBroken("a{b: \"c;}", 5);
        styleBroken("a{b: \"c\n\";}", 5);
        styleBroken("a{b: \"\t\";}", 5);
        styleBroken("a{b: \"c" + (char) 127 + "\";}", 5);
        styleBroken("a{b: \"" + "c".repeat(8000), 5);
        selectorBroken("a[b= \"", 5);
        selectorBroken("a[b= \"c]", 5);
        selectorBroken("a[b= \"c" + (char) 200 + "\"]", 5);
        sourceBroken("<a b= \"", 6);
        sourceBroken("<a b= \"c/>", 6);
        sourceBroken("<a b= \"c\n\"/>", 6);
        sourceBroken("<!a \"", 4);
        sourceBroken("<!a \"b>", 4);
        sourceBroken("<!a \"b\n\">", 4);
    }

    // Terms: SOURCE

    private static void pieces() {
        noPiece();
        bytesOfText();
        knownReferences();
    }

    /** "SOURCE: { PIECE }" */
    private static void noPiece() {
        part = "no piece at all";
        sourceTaken("", 0);
        Court x = lived();
        due("an empty source is one", 0, x.source());
        due("no elements any more", 0, x.count(4));
        throwing("no elements any more", ARGUMENT, () -> x.element(0, 0));
        due("place", -1, x.place());
    }

    /** "bytes 10, 32 .. 126 but < and & (they stand for themselves)" */
    private static void bytesOfText() {
        part = "bytes of text";
        for (int b = 0; b < 256; b++) {
            String inside = "<a>" + (char) b + "</a>";
            if (b == 10 || b >= 32 && b <= 126 && b != '<' && b != '&') {
                sourceTaken(String.valueOf((char) b), 0);
                Court x = new Court();
                due("byte " + b, 1, x.source(inside));
                due("byte " + b, 1, x.tell(0, 1));
                due("byte " + b, (long) b << 56, x.word(0));
                due("byte " + b, 0, x.element(0, 6));
            } else {
                sourceBroken(String.valueOf((char) b), b == '<' || b == '&' ? 1 : 0);
                sourceBroken(inside, b == '<' || b == '&' ? 4 : 3);
            }
        }
    }

    /** "&lt; &amp; (for < and &)" */
    private static void knownReferences() {
        part = "the two that are known";
        Court x = new Court();
        x.source("<a>&lt;&amp;&lt;b/></a>");
        due("one element", 1, x.count(4));
        due("text", 6, x.tell(0, 1));
        due("text", "<&<b/>", x.out());
        sourceBroken("&l;", 1);
        sourceBroken("&ltt;", 1);
        sourceBroken("&am;", 1);
        sourceBroken("&gt;", 1);
        sourceBroken("&lt;&amp", 8);
        sourceBroken("&lt,", 3);
    }

    private static void entities() {
        definedBefore();
        atMost40();
        noOpeningInEntity();
        definedOnce();
        textAndNothingElse();
    }

    /** "& NAME ; (an ENTITY that is defined before, for its TEXT)" */
    private static void definedBefore() {
        part = "an entity that is defined before";
        sourceTaken("<!x \"\">&x;", 0);
        sourceBroken("&x;<!x \"\">", 1);
        sourceTaken("<a><!x \"\"></a>&x;", 1);
        sourceTaken("<a><b><!x \"\"></b></a><c>&x;</c>", 3);
        sourceBroken("<!x \"\">&xx;", 8);
        sourceBroken("<!xx \"\">&x;", 9);
        sourceBroken("<!--<!x \"\">-->&x;", 15);
        sourceBroken("<!x \"\">&x", 9);
        sourceBroken("<!x \"\">&x<", 9);
        Court x = new Court();
        x.source("<!x \"one\"><a>&x;</a>");
        x.put("<a>&x;</a>");
        throwing("those of a former source are gone", UNSUPPORTED, x::source);
        due("place", 4, x.place());
        due("the former source is still there", 3, x.tell(0, 1));
        due("the former source is still there", "one", x.out());
    }

    /** "<! NAME STRING > (it defines an ENTITY ..; at most 40)" */
    private static void atMost40() {
        part = "at most 40 entities";
        StringBuilder text = new StringBuilder();
        for (int i = 0; i < 40; i++) {
            text.append("<!e").append(i).append("\"").append(i).append("\">");
        }
        sourceTaken(text.toString(), 0);
        sourceBroken(text + "<!e40\"\">", text.length() + 2);
        sourceBroken(text + "<!e0\"\">", text.length() + 2);
        sourceBroken(text + "<!", text.length() + 2);
        Court x = new Court();
        x.source(text + "<a>&e0;,&e39;&lt;&amp;</a>");
        x.tell(0, 1);
        due("first and last", "0,39<&", x.out());
        due("a new source may have 40 again", 0, x.source(text.toString()));
    }

    /** "in whose STRING there is no < or &, else that is BROKEN at its first byte" */
    private static void noOpeningInEntity() {
        part = "no < or & in an entity";
        sourceTaken("<!a \"x>y;\">", 0);
        sourceBroken("<!a \"<\">", 4);
        sourceBroken("<!a \"&\">", 4);
        sourceBroken("<!a   \"xyz<\">", 6);
        sourceBroken("<!a\"xyz&lt;\">", 3);
        sourceTaken("<a b=\"<&\"/>", 1);
    }

    /** "lt, amp are no ENTITIES and can't be defined, others only once." */
    private static void definedOnce() {
        part = "defined once";
        sourceBroken("<!lt \"x\">", 2);
        sourceBroken("<!amp \"x\">", 2);
        sourceTaken("<!ltt \"x\"><!l \"x\"><!amps \"x\"><!am \"x\">", 0);
        sourceTaken("<!a \"x\"><!b \"x\"><!aa \"x\">", 0);
        sourceBroken("<!a \"x\"><!b \"x\"><!a \"x\">", 18);
        sourceBroken("<!a \"x\"><!a \"y\">", 10);
    }

    /** "What ENTITIES stand for is text, nothing else." */
    private static void textAndNothingElse() {
        part = "text and nothing else";
        Court x = new Court();
        x.source("<!a \"b/>\"><!c \"/c>\"><!lts \"lt;\"><c>&lt;&a;&lt;&c;&amp;&lts;</c>");
        due("one element", 1, x.count(4));
        x.tell(0, 1);
        due("text", "<b/></c>&lt;", x.out());
        sourceBroken("<!a \"b/>\"><&a;", 11);
        sourceBroken("<!a \"x\"><c &a;/>", 11);
        Court y = new Court();
        y.source("<!a \"x\"><b c=\"&a;\"/>");
        y.tell(0, 3);
        due("none in a string", "&a;", y.out());
    }

    private static void comments() {
        anyBytes();
        upToTheFirst();
    }

    /** "<!-- then any bytes .." */
    private static void anyBytes() {
        part = "any bytes in a comment";
        StringBuilder all = new StringBuilder("<!--");
        for (int b = 0; b < 256; b++) {
            sourceTaken("<!--" + (char) b + "-->", 0);
            all.append((char) b);
        }
        sourceTaken(all + "--><a/>", 1);
        sourceTaken("<!---->", 0);
        sourceTaken("<!--" + "x".repeat(8185) + "-->", 0);
        Court x = new Court();
        x.source("<a><!-- text --></a>");
        due("no text", 1, x.element(0, 6));
        due("no text", 0, x.tell(0, 1));
    }

    /** ".. up to the first -->" */
    private static void upToTheFirst() {
        part = "up to the first -->";
        sourceTaken("<!--a--><b/>-->", 1);
        sourceTaken("<!------>", 0);
        sourceTaken("<!--->-->", 0);
        sourceTaken("<!-->-->", 0);
        sourceTaken("<!-- - -- -> --->", 0);
        sourceTaken("<!-- <!-- --> -->", 0);
        sourceBroken("<!-->", 5);
        sourceBroken("<!--->", 6);
        sourceBroken("<!--a", 5);
        sourceBroken("<!--a-", 6);
        sourceBroken("<!--a--", 7);
        sourceBroken("<!--a-- >", 9);
        sourceBroken("<!--a-->&x;", 9);
        sourceBroken("<a><!--</a>", 11);
    }

    private static void elementsOfSource() {
        sameNameTwice();
        fieldsUnlike();
        atMostSixFields();
        atMost500();
        atMost20InOneAnother();
    }

    /** "with the same NAME twice", "of the wrong NAME in an end its first byte" */
    private static void sameNameTwice() {
        part = "the same name twice";
        sourceTaken("<a></a>", 1);
        sourceTaken("<a1></a1>", 1);
        sourceBroken("<a></b>", 5);
        sourceBroken("<a></aa>", 5);
        sourceBroken("<aa></a>", 6);
        sourceBroken("<a1></a2>", 6);
        sourceBroken("<a><b></a></b>", 8);
        sourceTaken("<a><b></b></a>", 2);
        sourceTaken("<a><a></a></a>", 2);
        sourceBroken("<a><a></a>", 10);
        sourceBroken("<a></a></a>", 8);
        sourceBroken("<a/></a>", 5);
    }

    /** "no two NAMES of an ELEMENT alike" */
    private static void fieldsUnlike() {
        part = "no two fields alike";
        sourceTaken("<a b=\"\" c=\"\"/>", 1);
        sourceBroken("<a b=\"\" b=\"\"/>", 8);
        sourceBroken("<a b=\"1\" c=\"\" b=\"2\"/>", 14);
        sourceBroken("<a b=\"\" c=\"\" d=\"\" e=\"\" f=\"\" b=\"\"/>", 28);
        sourceTaken("<a b=\"\" bb=\"\" b1=\"\" a=\"\"/>", 1);
        sourceTaken("<a b=\"\"/><a b=\"\"><b b=\"\"/></a>", 3);
    }

    /** "FIELD: .. at most 6" */
    private static void atMostSixFields() {
        part = "at most 6 fields";
        String six = "<a b=\"1\" c=\"2\" d=\"3\" e=\"4\" f=\"5\" g=\"6\"";
        sourceTaken(six + "/>", 1);
        sourceTaken(six + " ></a>", 1);
        sourceBroken(six + " h=\"7\"/>", six.length() + 1);
        sourceBroken(six + " b=\"7\"/>", six.length() + 1);
        sourceBroken(six + " \n h", six.length() + 3);
        Court x = new Court();
        x.source("<z/>" + six + "/><z/>");
        due("none", 0, x.element(0, 5));
        due("six", 6, x.element(1, 5));
        x.tell(1, 12);
        due("the sixth", "g", x.out());
        x.tell(1, 13);
        due("the sixth", "6", x.out());
    }

    /** "ELEMENTS are numbered from 0 as they begin, at most 500 ..: one too much is BROKEN at its NAME" */
    private static void atMost500() {
        part = "at most 500 elements";
        sourceTaken("<a/>".repeat(499), 499);
        sourceTaken("<a/>".repeat(500), 500);
        sourceBroken("<a/>".repeat(501), 2001);
        sourceTaken("<a/>".repeat(500) + " ", 500);
        sourceBroken("<a/>".repeat(500) + "<", 2001);
        sourceBroken("<a>" + "<b/>".repeat(499) + "<c/></a>", 2000);
        sourceTaken("<a>" + "<b/>".repeat(499) + "</a>", 500);
        sourceTaken("<a/>".repeat(500) + "<!-- --><!e \"\">&e;", 500);
        Court x = new Court();
        x.source("<a><b/></a><c>" + "<d/>".repeat(496) + "<e/></c>");
        x.tell(0, 0);
        due("the first", "a", x.out());
        x.tell(1, 0);
        due("the second", "b", x.out());
        x.tell(2, 0);
        due("the third", "c", x.out());
        x.tell(499, 0);
        due("the last", "e", x.out());
        due("the last", 497, x.element(499, 0));
        throwing("there is no other", ARGUMENT, () -> x.tell(500, 0));
    }

    /** "at most 20 in one another: one too much is BROKEN at its NAME" */
    private static void atMost20InOneAnother() {
        part = "at most 20 in one another";
        sourceTaken("<a>".repeat(20) + "</a>".repeat(20), 20);
        sourceBroken("<a>".repeat(20) + "<a>", 61);
        sourceBroken("<a>".repeat(20) + "<b/>" + "</a>".repeat(20), 61);
        sourceTaken("<a>".repeat(19) + "<b/><b/><b></b>" + "</a>".repeat(19), 22);
        sourceTaken(("<a>".repeat(20) + "</a>".repeat(20)).repeat(3), 60);
        sourceBroken("<a>".repeat(20) + "</a><b><c>", 68);
        Court x = new Court();
        x.source("<a>".repeat(20) + "x" + "</a>".repeat(20));
        due("the outermost is in", 0, x.element(0, 4));
        due("the innermost is in", 19, x.element(19, 4));
        due("the innermost is directly in", 18, x.element(19, 1));
        due("its text is text of all", 1, x.tell(0, 1));
    }

    private static void blanksOfSource() {
        blanksWhereTheyMay();
        blanksWhereTheyMust();
        blanksWhereTheyMayNot();
    }

    /** "Blanks may stand ahead of FIELDS, = , STRING, / and > only" */
    private static void blanksWhereTheyMay() {
        part = "blanks where they may stand";
        for (String blank : new String[] {"", " ", "\n", " \n \n"}) {
            sourceTaken("<a " + blank + "b" + blank + "=" + blank + "\"c\" " + blank + "d" + blank + "=" + blank + "\"\""
                    + blank + "/" + blank + ">", 1);
            sourceTaken("<a" + blank + "></a" + blank + ">", 1);
            sourceTaken("<!e" + blank + "\"f\"" + blank + ">", 0);
        }
        for (char none : new char[] {0, 9, 11, 13, 31, 127, 160}) {
            sourceBroken("<a" + none + "/>", 2);
            sourceBroken("<a" + none + "b=\"\"/>", 2);
            sourceBroken("<a b" + none + "=\"\"/>", 4);
            sourceBroken("<a b=" + none + "\"\"/>", 5);
            sourceBroken("<a b=\"\"" + none + "/>", 7);
            sourceBroken("<a/" + none + ">", 3);
            sourceBroken("<a></a" + none + ">", 6);
            sourceBroken("<!e" + none + "\"\">", 3);
            sourceBroken("<!e\"\"" + none + ">", 5);
        }
    }

    /** "one at least ahead of each FIELD" */
    private static void blanksWhereTheyMust() {
        part = "a blank ahead of each field";
        sourceTaken("<a b=\"\" c=\"\"/>", 1);
        sourceTaken("<a\nb=\"\"\nc=\"\"/>", 1);
        sourceBroken("<a b=\"\"c=\"\"/>", 7);
        sourceBroken("<a b=\"\" c=\"\"d=\"\"/>", 12);
        sourceBroken("<a b=\"\"b=\"\"/>", 7);
    }

    /** "none behind < or </ or <! or &" */
    private static void blanksWhereTheyMayNot() {
        part = "no blank there";
        for (String blank : new String[] {" ", "\n"}) {
            sourceBroken("<" + blank + "a/>", 1);
            sourceBroken("<a><" + blank + "/a>", 4);
            sourceBroken("<a></" + blank + "a>", 5);
            sourceBroken("<" + blank + "!a \"\">", 1);
            sourceBroken("<!" + blank + "a \"\">", 2);
            sourceBroken("<!" + blank + "-- -->", 2);
            sourceBroken("<!-" + blank + "- -->", 3);
            sourceBroken("&" + blank + "lt;", 1);
            sourceBroken("&lt" + blank + ";", 3);
            sourceBroken("<!-- -" + blank + "->", 9);
        }
    }

    private static void signsOfSource() {
        singleBytes();
        endWhereNoneIsOpen();
    }

    /** "SIGNS other than NAME and STRING are single bytes (of </ and <!-- the first byte that is not so ..)" */
    private static void singleBytes() {
        part = "signs of single bytes";
        sourceBroken("<1/>", 1);
        sourceBroken("<=/>", 1);
        sourceBroken("<<a/>", 1);
        sourceBroken("<a><1", 4);
        sourceBroken("<a></1>", 5);
        sourceBroken("<a><//a>", 5);
        sourceBroken("<!1", 2);
        sourceBroken("<!>", 2);
        sourceBroken("<!!", 2);
        sourceBroken("<!-a", 3);
        sourceBroken("<!->", 3);
        sourceBroken("<a/b>", 3);
        sourceBroken("<a//>", 3);
        sourceBroken("<a 1=\"\"/>", 3);
        sourceBroken("<a b==\"\"/>", 5);
        sourceBroken("<a b=12/>", 5);
        sourceBroken("<a b=\"\",/>", 7);
        sourceBroken("<a></a/>", 6);
        sourceBroken("<a></a b=\"\">", 7);
        sourceBroken("<!a b>", 4);
        sourceBroken("<!a=\"\">", 3);
        sourceBroken("<!a \"\"/>", 6);
        sourceBroken("<!a \"\" \"\">", 7);
        sourceBroken("&1;", 1);
        sourceBroken("&;", 1);
        sourceBroken("&&", 1);
    }

    /** "of </ where no ELEMENT is open the /" */
    private static void endWhereNoneIsOpen() {
        part = "an end where none is open";
        sourceBroken("</a>", 1);
        sourceBroken("</", 1);
        sourceBroken("x<!-- --></", 10);
        sourceBroken("<a></a></a>", 8);
        sourceBroken("<a/></a>", 5);
        sourceBroken("<a></", 5);
    }

    // Terms: STYLE

    private static void styles() {
        noRule();
        noSelector();
        emptyBody();
        atMost30Names();
        atMost120Selectors();
        atMost600Told();
    }

    /** "STYLE: { SELECTOR { , SELECTOR } BODY }" */
    private static void noRule() {
        part = "no rule at all";
        styleTaken("", 0, 0);
        styleTaken(" \n", 0, 0);
        Court x = lived();
        due("an empty style is one", 0, x.style());
        due("selectors", 0, x.count(2));
        due("told", 0, x.count(3));
        due("weight", -1, x.count(10));
        due("value", "0 ", x.value(0, "s"));
        throwing("no selector any more", ARGUMENT, () -> x.fits(0, 0));
    }

    private static void noSelector() {
        part = "a selector at least";
        styleBroken("{}", 0);
        styleBroken("a{}{}", 3);
        styleBroken(",a{}", 0);
        styleBroken("a,{}", 2);
        styleBroken("a,", 2);
        styleBroken("a", 1);
        styleBroken("a a{}", 2);
        styleTaken("a,a{}", 2, 0);
    }

    /** "BODY: "{" { NAME : VALUE [ % ] [ ! ] ; } "}"" */
    private static void emptyBody() {
        part = "a body";
        styleTaken("a{}", 1, 0);
        styleTaken("a{b:c;}", 1, 1);
        styleTaken("a{b:c;b:c;}", 1, 2);
        styleBroken("a{;}", 2);
        styleBroken("a{b}", 3);
        styleBroken("a{b:}", 4);
        styleBroken("a{b:c}", 5);
        styleBroken("a{b:c;", 6);
        styleBroken("a{1:c;}", 2);
        styleBroken("a{*:c;}", 2);
        styleBroken("a{b:*;}", 4);
        styleBroken("a{b:!;}", 4);
        styleBroken("a{b:%;}", 4);
        styleBroken("a}", 1);
    }

    /** "At most 30 different NAMES of properties." */
    private static void atMost30Names() {
        part = "at most 30 names of properties";
        StringBuilder names = new StringBuilder("a{");
        for (int i = 1; i <= 30; i++) {
            names.append("b").append(i).append(":").append(i).append(";");
        }
        styleTaken(names + "}", 1, 30);
        styleTaken(names + "b1:1;b30:1;}", 1, 32);
        styleTaken(names + "}c{b30:1;}", 2, 31);
        styleBroken(names + "b31:1;}", names.length());
        styleBroken(names + "b:1;}", names.length());
        styleBroken(names + "} c { b31:1; }", names.length() + 6);
        Court x = new Court();
        x.source("<a/>");
        x.style(names + "}");
        due("the first", "2 1", x.value(0, "b1"));
        due("the last", "2 30", x.value(0, "b30"));
        due("no other", "0 ", x.value(0, "b31"));
        due("a new style may have 30 again", 1, x.style(names.toString().replace("b", "c") + "}"));
        due("the former are gone", "0 ", x.value(0, "b1"));
    }

    /** "At most 120 SELECTORS" */
    private static void atMost120Selectors() {
        part = "at most 120 selectors";
        styleTaken("a{}".repeat(119), 119, 0);
        styleTaken("a{}".repeat(120), 120, 0);
        styleTaken("a,".repeat(119) + "a{}", 120, 0);
        styleTaken("a,a{}".repeat(60) + " ", 120, 0);
        styleBroken("a{}".repeat(120) + " a{}", 361);
        styleBroken("a{}".repeat(119) + "a, *{}", 360);
        styleBroken("a,".repeat(120) + "a{}", 240);
        Court x = new Court();
        x.source("<a/><b/>");
        x.style("a{}".repeat(119) + "b{}");
        due("the 120th", 0, x.fits(119, 0));
        due("the 120th", 1, x.fits(119, 1));
        throwing("no 121st", ARGUMENT, () -> x.fits(120, 1));
        due("a selector that is asked is none of them", 1, x.select("a"));
        due("still 120", 120, x.count(2));
    }

    /** "600 properties told in all" */
    private static void atMost600Told() {
        part = "at most 600 properties told";
        styleTaken("a{" + "b:c;".repeat(599) + "}", 1, 599);
        styleTaken("a{" + "b:c;".repeat(600) + "}", 1, 600);
        styleTaken("a,b{" + "b:c;".repeat(600) + "}c{}", 3, 600);
        styleTaken("a{b:c;}".repeat(100) + "a{" + "b:c;".repeat(500) + "}", 101, 600);
        styleBroken("a{" + "b:c;".repeat(601) + "}", 2402);
        styleBroken("a{" + "b:c;".repeat(600) + "} c { b:c; }", 2408);
        styleBroken("a{" + "b:c;".repeat(600), 2402);
        Court x = new Court();
        x.source("<a/>");
        x.style("a{" + "b:1;".repeat(599) + "b:2;}");
        due("the last told", 599, x.by(0, "b"));
        due("the last told", "2 2", x.value(0, "b"));
    }

    private static void values() {
        shareOfNumberAlone();
        shareInRange();
        strongOnce();
    }

    /** "VALUE: NAME, NUMBER or STRING; % behind a NUMBER alone" */
    private static void shareOfNumberAlone() {
        part = "% behind a number alone";
        styleTaken("a{b:1%;}", 1, 1);
        styleBroken("a{b:c%;}", 5);
        styleBroken("a{b:up%;}", 6);
        styleBroken("a{b:\"1\"%;}", 7);
        styleBroken("a{b:%1;}", 4);
        styleBroken("a{b:1!%;}", 6);
        selectorBroken("a:nth(1%)", 7);
    }

    /** "which is 1 .. 1000 then (else BROKEN at the NUMBER)" */
    private static void shareInRange() {
        part = "a share is 1 .. 1000";
        styleTaken("a{b:1%;}", 1, 1);
        styleTaken("a{b:1000%;}", 1, 1);
        styleTaken("a{b:0001000 %;}", 1, 1);
        styleBroken("a{b:0%;}", 4);
        styleBroken("a{b: 0000000 %;}", 5);
        styleBroken("a{b:1001%;}", 4);
        styleBroken("a{b: 9999999 \n %;}", 5);
        styleTaken("a{b:0;c:1001;}", 1, 2);
    }

    private static void strongOnce() {
        part = "! once at most";
        styleTaken("a{b:c!;b:1!;b:\"\"!;b:1%!;}", 1, 4);
        styleBroken("a{b:c!!;}", 6);
        styleBroken("a{b:!c;}", 4);
        styleBroken("a{b!:c;}", 3);
    }

    private static void selectors() {
        atMost8Steps();
        atMost4Conditions();
        conditionsAsWritten();
    }

    /** "8 STEPS in one" */
    private static void atMost8Steps() {
        part = "at most 8 steps";
        selectorTaken("a", 1);
        selectorTaken("a>b/c+d>*/f+g>h", 7);
        selectorTaken("a > b/c+d>*/f+g> h", 7);
        selectorBroken("a>b/c+d>*/f+g>h>i", 16);
        selectorBroken("a>b/c+d>*/f+g>h /  *", 19);
        selectorBroken("a>b/c+d>*/f+g>h+", 16);
        styleTaken("a>a>a>a>a>a>a>a,a>a>a>a>a>a>a>a{}", 2, 0);
        Court x = new Court();
        x.source("<a>".repeat(9) + "</a>".repeat(9));
        due("8 steps", 2, x.select("a>a>a>a>a>a>a>a"));
        due("8 steps", 7, x.found(0));
        due("8 steps", 8, x.found(1));
        due("7 steps", 3, x.select("a>a>a>a>a>a>a"));
    }

    /** "4 brackets and : in one STEP" */
    private static void atMost4Conditions() {
        part = "at most 4 brackets and : in one step";
        selectorTaken("a[b][c=\"\"]:first:nth(1)", 401);
        selectorTaken("*:not(b):last:empty[d]", 400);
        selectorBroken("a[b][b][b][b][b]", 13);
        selectorBroken("a:last:last:last:last :last", 22);
        selectorBroken("a[b]:first[c=\"\"]:empty[", 22);
        selectorBroken("a[b]:first[c=\"\"]:empty:", 22);
        selectorTaken("a[b][b][b][b]>a[b][b][b][b]", 802);
        selectorBroken("a[b][b][b][b]>a[b][b][b][b] [b]", 28);
    }

    /** "[ NAME ] | [ NAME = STRING ] | : first | : last | : empty | : nth ( NUMBER ) | : not ( NAME )" */
    private static void conditionsAsWritten() {
        part = "brackets and : as they are written";
        selectorBroken("a[]", 2);
        selectorBroken("a[*]", 2);
        selectorBroken("a[b=]", 4);
        selectorBroken("a[b=c]", 4);
        selectorBroken("a[b=1]", 4);
        selectorBroken("a[b\"c\"]", 3);
        selectorBroken("a[b,c]", 3);
        selectorBroken("a:", 2);
        selectorBroken("a:up", 2);
        for (String other : new String[] {"girst", "firsu", "mast", "lasu", "fmpty", "emptz", "oth", "nti", "ot", "nou"}) {
            selectorBroken("a:" + other, 2);
        }
        selectorBroken("a:firs", 2);
        selectorBroken("a:firstly", 2);
        selectorBroken("a:lasts", 2);
        selectorBroken("a:emptys", 2);
        selectorBroken("a:first()", 7);
        selectorBroken("a:empty(1)", 7);
        selectorBroken("a:nth", 5);
        selectorBroken("a:nth 1", 6);
        selectorBroken("a:nth(b)", 6);
        selectorBroken("a:nth(\"1\")", 6);
        selectorBroken("a:not", 5);
        selectorBroken("a:not()", 6);
        selectorBroken("a:not(*)", 6);
        selectorBroken("a:not(1)", 6);
        selectorBroken("a:not(b c)", 8);
        selectorBroken("a:not([b])", 6);
        selectorTaken("first:not(first)", 101);
    }

    // Terms: what a STEP and a SELECTOR fit

    private static void whatFits() {
        nameOrAny();
        fieldAndString();
        firstLastNth();
        nothingInIt();
        notThatName();
        linksOfSteps();
        allOthersFit();
    }

    /** "A STEP fits an ELEMENT of that NAME (* any)" */
    private static void nameOrAny() {
        part = "of that name";
        String page = "<a/><aa/><a1/><b/>";
        fits(page, "a", "0");
        fits(page, "aa", "1");
        fits(page, "a1", "2");
        fits(page, "*", "0 1 2 3");
        fits(page, "c", "");
        fits("", "*", "");
    }

    /** "that has the FIELD; with that STRING" */
    private static void fieldAndString() {
        part = "has the field; with that string";
        String page = "<a/><a b=\"\"/><a b=\"x\"/><a b=\"xx\" c=\"y\"/><a bb=\"x\"/><b/>"
                + "<a g=\"\" h=\"\" i=\"\" j=\"\" k=\"\" b=\"X\"/>";
        fits(page, "*[b]", "1 2 3 6");
        fits(page, "*[b=\"\"]", "1");
        fits(page, "*[b=\"x\"]", "2");
        fits(page, "*[b=\"X\"]", "6");
        fits(page, "*[b=\" x\"]", "");
        fits(page, "*[b][c]", "3");
        fits(page, "*[b=\"xx\"][c=\"y\"]", "3");
        fits(page, "*[b=\"y\"][c]", "");
        fits(page, "*[b=\"x\"][b=\"xx\"]", "");
        fits(page, "*[k]", "6");
    }

    /** "is the first, last, NUMBERth (from 1; 0 is none) of the ELEMENTS directly in the same one (or in none)" */
    private static void firstLastNth() {
        part = "first, last, nth";
        String page = "x<a><b/>x<c/><d/>x</a><e><f/></e><g></g>x";
        // 0 a, 1 b, 2 c, 3 d, 4 e, 5 f, 6 g
        fits(page, "*:first", "0 1 5");
        fits(page, "*:last", "3 5 6");
        fits(page, "*:first:last", "5");
        fits(page, "*:nth(0)", "");
        fits(page, "*:nth(0000000)", "");
        fits(page, "*:nth(1)", "0 1 5");
        fits(page, "*:nth(2)", "2 4");
        fits(page, "*:nth(3)", "3 6");
        fits(page, "*:nth(0000003)", "3 6");
        fits(page, "*:nth(4)", "");
        fits(page, "*:nth(9999999)", "");
        fits("<a/>", "a:first:last:nth(1)", "0");
        fits("<a/>".repeat(500), "a:nth(500)", "499");
        fits("<a/>".repeat(500), "a:last", "499");
        fits("<a/>".repeat(500), "a:nth(501)", "");
        fits("<b/><a/><b/>", "a:first", "");
        fits("<b/><a/><b/>", "a:last", "");
        fits("<b/><a/><b/>", "a:nth(1)", "");
    }

    /** "has no ELEMENT or text in it (a blank is text; what stands for nothing is not)" */
    private static void nothingInIt() {
        part = "nothing in it";
        empty("<a/>", 1);
        empty("<a></a>", 1);
        empty("<a b=\"c\"></a >", 1);
        empty("<a> </a>", 0);
        empty("<a>\n</a>", 0);
        empty("<a>x</a>", 0);
        empty("<a>&lt;</a>", 0);
        empty("<a><b/></a>", 0);
        empty("<!e \"\"><a>&e;</a>", 1);
        empty("<!e \"\"><a>&e;&e;&e;</a>", 1);
        empty("<!e \" \"><a>&e;</a>", 0);
        empty("<!e \"\"><!f \"x\"><a>&e;&f;</a>", 0);
        empty("<a><!-- --></a>", 1);
        empty("<a><!e \"x\"></a>", 1);
        empty("<a><!-- --><!e \"\">&e;</a>", 1);
        empty("<a></a>x", 1);
        empty("x<a></a>", 1);
        empty("<!e \"\"><a><b>&e;</b></a>", 0);
    }

    private static void empty(String page, int due) {
        Court x = new Court();
        x.source(page);
        due(page, due, x.element(0, 6));
        x.select("a:empty");
        due(page, due, x.count(5));
        due(page, due == 0 ? -1 : 0, due == 0 ? -1 : x.found(0));
    }

    /** "has not that NAME" */
    private static void notThatName() {
        part = "has not that name";
        fits("<a/><b/><aa/>", "*:not(a)", "1 2");
        fits("<a/><b/><aa/>", "a:not(a)", "");
        fits("<a/><b/><aa/>", "a:not(b)", "0");
        fits("<a/><b/><aa/>", "*:not(c)", "0 1 2");
        fits("<a/><b/><aa/>", "*:not(a):not(b):not(aa)", "");
    }

    /** "a > b: b directly in an a; a / b: b in an a, however deep; a + b: b whose ELEMENT directly before it .." */
    private static void linksOfSteps() {
        part = "> / +";
        String page = "<a><b/><c><b/></c><b/>x<!-- --><b/></a><b/><a/>x<b/>";
        // 0 a, 1 b, 2 c, 3 b, 4 b, 5 b, 6 b, 7 a, 8 b
        fits(page, "a > b", "1 4 5");
        fits(page, "a / b", "1 3 4 5");
        fits(page, "a / c / b", "3");
        fits(page, "c + b", "4");
        fits(page, "b + b", "5");
        fits(page, "a + b", "6 8");
        fits(page, "b + a", "7");
        fits(page, "b + c", "2");
        fits(page, "a > a", "");
        fits(page, "a / a", "");
        fits(page, "* > a", "");
        fits(page, "* / a", "");
        fits(page, "* + *:first", "");
        fits(page, "c + c", "");
        fits(page, "* > *", "1 2 3 4 5");
        fits(page, "* + *", "2 4 5 6 7 8");
        fits("<a>".repeat(19) + "<b/>" + "</a>".repeat(19), "a:first / b", "19");
        fits("<x>" + "<a>".repeat(18) + "<b/>" + "</a>".repeat(18) + "</x>", "x / b", "19");
        fits("<x>" + "<a>".repeat(18) + "<b/>" + "</a>".repeat(18) + "</x>", "x > b", "");
    }

    /** "A SELECTOR fits an ELEMENT that its last STEP fits, if there are ELEMENTS for all others." */
    private static void allOthersFit() {
        part = "elements for all other steps";
        // The nearest that fits a step is not always the one with which the others are there.
        fits("<a><b><x><b><c/></b></x></b></a>", "a > b / c", "4");
        fits("<a><b><x><b><c/></b></x></b></a>", "x > b / c", "4");
        fits("<a><b><x><b><c/></b></x></b></a>", "a > b > c", "");
        fits("<q/><b><b><c/></b></b>", "q + b / c", "3");
        fits("<q/><b><b><c/></b></b>", "q + b > c", "");
        fits("<q/><b><p/><b><c/></b></b>", "q + b / c", "4");
        fits("<q/><b><p/><b><c/></b></b>", "p + b / c", "4");
        fits("<q/><b><p/><b><c/></b></b>", "q + b > p + b > c", "4");
        fits("<q/><b><p/><b><c/></b></b>", "q / c", "");
        fits("<a><b/></a>", "a > b > c", "");
        fits("<a><b/></a>", "c > a > b", "");
        fits("<a><b/></a>", "* > * > *", "");
        fits("<a>".repeat(20) + "</a>".repeat(20), "a/a/a/a/a/a/a/a", "7 8 9 10 11 12 13 14 15 16 17 18 19");
        fits("<a/>".repeat(9), "a+a+a+a+a+a+a+a", "7 8");
    }

    // Terms: WEIGHT, and which property counts

    private static void whatCounts() {
        weights();
        strongAhead();
        greatestWeight();
        lastTold();
        ofSeveralSelectors();
    }

    /** "WEIGHT: 100 for each bracket or : , 1 for each NAME of a STEP (not in : not)." */
    private static void weights() {
        part = "weight";
        selectorTaken("*", 0);
        selectorTaken("* > * / * + *", 0);
        selectorTaken("a", 1);
        selectorTaken("a > *", 1);
        selectorTaken("*:not(a)", 100);
        selectorTaken("*[a]", 100);
        selectorTaken("*[a=\"b\"]", 100);
        selectorTaken("*:nth(7)", 100);
        selectorTaken("*:first", 100);
        selectorTaken("a+a+a+a+a+a+a+a", 8);
        String most = "a[b]:first:last:empty";
        selectorTaken((most + ">").repeat(7) + most, 3208);
    }

    /** "one with ! counts ahead of all without" */
    private static void strongAhead() {
        part = "! counts ahead";
        counts("* { s: 1 !; } a:first:last { s: 2; }", 0);
        counts("a:first:last { s: 1; } * { s: 2 !; }", 1);
        counts("a { s: 1 !; s: 2; }", 0);
        counts("a { s: 1; s: 2 !; }", 1);
        counts("a { s: 1 !; } b { s: 2 !; }", 0);
        counts("b { s: 1 !; } a { s: 2; }", 1);
    }

    /** "then that of the greatest WEIGHT" */
    private static void greatestWeight() {
        part = "the greatest weight";
        counts("* { s: 1; }", 0);
        counts("a { s: 1; } * { s: 2; }", 0);
        counts("* { s: 1; } a { s: 2; }", 1);
        counts("*:first { s: 1; } a { s: 2; }", 0);
        counts("a:first { s: 1; } *:first { s: 2; }", 0);
        counts("a:first { s: 1 !; } a { s: 2 !; }", 0);
        counts("a { s: 1 !; } a:first { s: 2 !; }", 1);
    }

    /** "of these the last told" */
    private static void lastTold() {
        part = "the last told";
        counts("a { s: 1; } a { s: 2; }", 1);
        counts("*:first { s: 1; } *:last { s: 2; } a { s: 3; }", 1);
        counts("a { s: 1; s: 2; s: 3; }", 2);
        counts("a { s: 1 !; s: 2 !; s: 3; }", 1);
        counts("a { s: 1 !; } a { s: 2 !; } a { s: 3; }", 1);
        counts("a { s: 1; t: 2; } a { t: 3; }", 0);
    }

    private static void ofSeveralSelectors() {
        part = "rules with several selectors";
        counts("a, a:first { s: 1; } a { s: 2; }", 0);
        counts("a:first, a { s: 1; } a { s: 2; }", 0);
        counts("a, b:first { s: 1; } a { s: 2; }", 1);
        counts("b, c { s: 1; }", -1);
        counts("b, a, c { s: 1; }", 0);
    }

    /** Which of the properties told counts for s of an only a. */
    private static void counts(String style, int due) {
        Court x = new Court();
        x.source("<a/>");
        x.style(style);
        due(style, due, x.by(0, "s"));
        due(style, due < 0 ? "0 " : "2 " + (due + 1), x.value(0, "s"));
    }

    // Terms: what its VALUE is there

    private static void whatItIsThere() {
        up();
        shareRoundedDown();
        shareAtMost();
        shareOfNoNumber();
        asDeepAsCanBe();
    }

    /** "the NAME up: what the property is of the ELEMENT that it is directly in (none, if there is none, or it has none)" */
    private static void up() {
        part = "up";
        is("a{s:1;} b{s:up;}", "2 1,2 1,0 ");
        is("b{s:up;} c{s:up;}", "0 ,0 ,0 ");
        is("a{s:up;}", "0 ,0 ,0 ");
        is("a{s:up;} b{s:up;} c{s:up;}", "0 ,0 ,0 ");
        is("a{s:1;} c{s:up;}", "2 1,0 ,0 ");
        is("a{s:x;} b{s:up;} c{s:up;}", "1 x,1 x,1 x");
        is("a{s:\"\";} b{s:up;} c{s:up !;}", "3 ,3 ,3 ");
        is("a{s:\"up\";} b{s:up;} c{s:ups;}", "3 up,3 up,1 ups");
        is("a{s:1;} b{s:\"up\";} c{s:u;}", "2 1,3 up,1 u");
        is("a{s:1;} b{s:ap;} c{s:uq;}", "2 1,1 ap,1 uq");
        Court x = new Court();
        x.source("<a/>");
        x.style("a{s:up;}");
        due("it counts nevertheless", 0, x.by(0, "s"));
    }

    /** "a NUMBER with %: that many hundredths of what it is of that ELEMENT, rounded down" */
    private static void shareRoundedDown() {
        part = "rounded down";
        is("a{s:100;} b{s:1%;} c{s:100%;}", "2 100,2 1,2 1");
        is("a{s:99;} b{s:1%;} c{s:1000%;}", "2 99,2 0,2 0");
        is("a{s:199;} b{s:1%;} c{s:1000%;}", "2 199,2 1,2 10");
        is("a{s:3;} b{s:50%;} c{s:50%;}", "2 3,2 1,2 0");
        is("a{s:0;} b{s:1000%;} c{s:1000%;}", "2 0,2 0,2 0");
        is("a{s:101;} b{s:99%;} c{s:101%;}", "2 101,2 99,2 99");
        // Each is rounded by itself: 33 hundredths of 10 are 3, and 300 of that are 9.
        is("a{s:10;} b{s:33%;} c{s:300%;}", "2 10,2 3,2 9");
        is("a{s:10;} b{s:33%;} c{s:up;}", "2 10,2 3,2 3");
    }

    /** "at most 9999999" */
    private static void shareAtMost() {
        part = "at most 9999999";
        is("a{s:9999999;} b{s:100%;} c{s:101%;}", "2 9999999,2 9999999,2 9999999");
        is("a{s:9999999;} b{s:1000%;} c{s:10%;}", "2 9999999,2 9999999,2 999999");
        is("a{s:1000000;} b{s:999%;} c{s:1000%;}", "2 1000000,2 9990000,2 9999999");
        is("a{s:999999;} b{s:1000%;} c{s:100%;}", "2 999999,2 9999990,2 9999990");
        is("a{s:1000000;} b{s:1000%;} c{s:50%;}", "2 1000000,2 9999999,2 4999999");
    }

    /** "if that is a NUMBER, else none" */
    private static void shareOfNoNumber() {
        part = "a share of what is no number";
        is("a{s:50%;}", "0 ,0 ,0 ");
        is("b{s:50%;} c{s:50%;}", "0 ,0 ,0 ");
        is("a{s:x;} b{s:50%;} c{s:up;}", "1 x,0 ,0 ");
        is("a{s:\"5\";} b{s:50%;} c{s:50%;}", "3 5,0 ,0 ");
        is("a{s:x;} b{s:up;} c{s:50%;}", "1 x,1 x,0 ");
        is("a{s:8;} b{s:up;} c{s:50%;}", "2 8,2 8,2 4");
        Court x = new Court();
        x.source("<a/>");
        x.style("a{s:50%;}");
        due("it counts nevertheless", 0, x.by(0, "s"));
    }

    private static void asDeepAsCanBe() {
        part = "as deep as can be";
        Court x = new Court();
        x.source("<a>" + "<b>".repeat(19) + "</b>".repeat(19) + "</a>");
        x.style("a{s:1;t:9999999;u:x;} b{s:1000%;t:50%;u:up;}");
        due("of 19", "2 9999999", x.value(19, "s"));
        due("of 6", "2 1000000", x.value(6, "s"));
        due("of 7", "2 9999999", x.value(7, "s"));
        due("halves", "2 19", x.value(19, "t"));
        due("up", "1 x", x.value(19, "u"));
        due("none there", "0 ", x.value(19, "v"));
    }

    /** What s is of an a, of the b that is in it, and of the c that is in that, with commas between. */
    private static void is(String style, String due) {
        Court x = new Court();
        int n = x.source("<a><b><c/></b></a>");
        x.style(style);
        StringBuilder all = new StringBuilder();
        for (int e = 0; e < n; e++) {
            all.append(e == 0 ? "" : ",").append(x.value(e, "s"));
        }
        due(style, due, all.toString());
    }

    // Terms: what is thrown

    private static void thrown() {
        elementsThatAreThere();
        numbersFirst();
        throwingChangesNothing();
        nothingAtFirst();
    }

    /** "e: an ELEMENT that is there; 0 .. ELEMENTS - 1" */
    private static void elementsThatAreThere() {
        part = "an element that is there";
        for (int n : new int[] {1, 2, 500}) {
            Court x = new Court();
            x.source("<a/>".repeat(n));
            x.style("a{s:1;}");
            for (int e : new int[] {0, n - 1}) {
                due("property of " + e, "2 1", x.value(e, "s"));
                due("by of " + e, 0, x.by(e, "s"));
                due("fits of " + e, 1, x.fits(0, e));
                due("element " + e, e + 1, x.element(e, 0));
                due("tell of " + e, 1, x.tell(e, 0));
            }
            for (int e : new int[] {Integer.MIN_VALUE, -1, n, n + 1, 501, Integer.MAX_VALUE}) {
                throwing("property of " + e, ARGUMENT, () -> x.property(e));
                throwing("by of " + e, ARGUMENT, () -> x.by(e));
                throwing("fits of " + e, ARGUMENT, () -> x.fits(0, e));
                throwing("element " + e, ARGUMENT, () -> x.element(e, 0));
                throwing("tell of " + e, ARGUMENT, () -> x.tell(e, 0));
            }
        }
    }

    /** "What is thrown, in this order: IllegalArgumentException: a number out of range ..; then as told." */
    private static void numbersFirst() {
        part = "numbers out of range first";
        Court x = new Court();
        x.source("<!k \"" + "x".repeat(2000) + "\"><a b=\"\">" + "&k;".repeat(9) + "</a>");
        x.style("a{}");
        throwing("too long", INDEX, () -> x.tell(0, 1));
        throwing("of no element", ARGUMENT, () -> x.tell(1, 1));
        throwing("of no element", ARGUMENT, () -> x.tell(-1, 1));
        throwing("no such part", ARGUMENT, () -> x.tell(0, 4));
        throwing("neither", ARGUMENT, () -> x.tell(1, 4));
        throwing("neither", ARGUMENT, () -> x.element(1, 9));
        throwing("neither", ARGUMENT, () -> x.fits(1, 1));
        throwing("neither", ARGUMENT, () -> x.fits(-1, -1));
    }

    /** "A call that throws changes nothing, but THE TAPE and PLACE." */
    private static void throwingChangesNothing() {
        part = "a call that throws changes nothing";
        sourceBroken("<!e \"x\"><q k=\"w\"/><r><s/>", 25);
        sourceBroken("<a/><b/></c>", 9);
        styleBroken("b{s:2;}a{s:3;t:4;}c{", 20);
        styleBroken("b,a:first{s:2!;}]", 16);
        selectorBroken("a:first[", 8);
        for (int n : FAR_OUT) {
            refused("property " + n, 0, ARGUMENT, x -> x.property(n));
            refused("by " + n, 0, ARGUMENT, x -> x.by(n));
            refused("fits selector " + n, 1, ARGUMENT, x -> x.fits(n, 0));
            refused("fits element " + n, 1, ARGUMENT, x -> x.fits(0, n));
            refused("element " + n, 1, ARGUMENT, x -> x.element(n, 0));
            refused("tell " + n, 1, ARGUMENT, x -> x.tell(n, 0));
            refused("found " + n, 1, INDEX, x -> x.found(n));
            refused("word " + n, 1, INDEX, x -> x.word(n));
            refused("end " + n, 1, ARGUMENT, x -> x.end(n));
        }
        refused("element 9", 1, ARGUMENT, x -> x.element(0, 9));
        refused("tell 4", 1, ARGUMENT, x -> x.tell(0, 4));
        refused("count 7", 1, ARGUMENT, x -> x.count(7));
    }

    private interface CallOf {
        long answer(Court x);
    }

    private static void refused(String what, int tapeThen, String due, CallOf call) {
        Court x = lived();
        x.put("s");
        throwing(what, due, () -> call.answer(x));
        due(what + ": place", LIVED_PLACE, x.place());
        due(what + ": tape", tapeThen, x.count(0));
        x.end(0);
        due(what + ": all else", LIVED, state(x));
    }

    /** "SOURCE and STYLE are nothing at first." */
    private static void nothingAtFirst() {
        part = "nothing at first";
        Court x = new Court();
        due("selectors", 0, x.count(2));
        due("told", 0, x.count(3));
        due("elements", 0, x.count(4));
        x.source("<a/>");
        due("no style yet", "0 ", x.value(0, "s"));
        due("no style yet", -1, x.by(0, "s"));
        Court y = new Court();
        y.style("a{s:1;}");
        due("no source yet", 0, y.select("*"));
        throwing("no source yet", ARGUMENT, () -> y.fits(0, 0));
        y.put("s");
        throwing("no source yet", ARGUMENT, () -> y.property(0));
        y.source("<a/>");
        due("the style was there before the source", "2 1", y.value(0, "s"));
    }

    // The promises, one by one

    private static void promises() {
        newObject();
        feedHighestFirst();
        feedFull();
        end();
        source();
        style();
        place();
        propertyKinds();
        propertyName();
        by();
        select();
        found();
        fits();
        elementWhats();
        elementLeastAndMost();
        tellParts();
        tellTooMuch();
        word();
        counts();
        countWeights();
    }

    /** Promise 1: "No ELEMENTS, no rules." */
    private static void newObject() {
        part = "promise 1";
        Court x = new Court();
        for (int what = 0; what <= 6; what++) {
            due("count " + what, 0, x.count(what));
        }
        for (int what = 10; what <= 129; what++) {
            due("count " + what, -1, x.count(what));
        }
        due("place", -1, x.place());
        throwing("found", INDEX, () -> x.found(0));
        throwing("word", INDEX, () -> x.word(0));
        throwing("element", ARGUMENT, () -> x.element(0, 0));
        throwing("tell", ARGUMENT, () -> x.tell(0, 0));
        throwing("fits", ARGUMENT, () -> x.fits(0, 0));
        throwing("property", ARGUMENT, () -> x.property(0));
        throwing("by", ARGUMENT, () -> x.by(0));
        due("select", 0, x.select("*"));
        Court y = lived();
        due("another object is another", 0, new Court().count(4));
        due("another object is another", LIVED, state(y));
    }

    /** Promise 2: "The 20 bytes of five ints, the highest of each first, come to THE TAPE" */
    private static void feedHighestFirst() {
        part = "promise 2: bytes";
        Court x = new Court();
        due("twenty", 20, x.feed(0x3c613e30, 0x31323334, 0x35363738, 0x39414243, 0x3c2f613e));
        due("forty", 40, x.feed(0x20202020, 0x20202020, 0x20202020, 0x20202020, 0x20202020));
        due("one element", 1, x.source());
        due("its text", 13, x.tell(0, 1));
        due("its text", "0123456789ABC", x.out());
        // A byte of 128 or more is one byte too, and changes none beside it.
        int[] places = {0, 1, 2, 3};
        for (int k : places) {
            Court y = new Court();
            y.feed(0x61616161 | 0xff << 24 - 8 * k, -1, -1, -1, -1);
            throwing("byte 255", UNSUPPORTED, y::source);
            due("byte 255", k, y.place());
        }
        Court z = new Court();
        z.feed(0x61616161, 0x61616161, 0x61616161, 0x61616161, 0x61616180);
        throwing("byte 128", UNSUPPORTED, z::source);
        due("byte 128", 19, z.place());
    }

    /** Promise 2: "it would have more than 8192: IndexOutOfBoundsException. Answers its length." */
    private static void feedFull() {
        part = "promise 2: full";
        Court x = new Court();
        x.put("a{}" + " ".repeat(8170));
        due("a byte too little room", 8173, x.count(0));
        throwing("refused", INDEX, () -> x.feed(0x20202020, 0x20202020, 0x20202020, 0x20202020, 0x20202020));
        throwing("refused", INDEX, () -> x.feed(-1, -1, -1, -1, -1));
        due("as it was", 8173, x.count(0));
        due("place as it was", -1, x.place());
        due("just room enough", 8172, x.end(8172));
        due("full", 8192, x.feed(0x20202020, 0x20202020, 0x20202020, 0x20202020, 0x20202020));
        throwing("refused", INDEX, () -> x.feed(-1, -1, -1, -1, -1));
        due("as it was", 8192, x.count(0));
        due("its bytes as they were", 1, x.style());
        due("empty", 0, x.count(0));
    }

    /** Promise 3: "THE TAPE keeps its first n bytes, n 0 .. its length. Answers n." */
    private static void end() {
        part = "promise 3";
        Court x = new Court();
        due("0 of an empty one", 0, x.end(0));
        throwing("1 of an empty one", ARGUMENT, () -> x.end(1));
        x.put("<a/><b/><c/>");
        for (int n : new int[] {Integer.MIN_VALUE, -1, 13, 20, 8192, Integer.MAX_VALUE}) {
            throwing("n " + n, ARGUMENT, () -> x.end(n));
            due("as it was behind n " + n, 12, x.count(0));
        }
        due("all of it", 12, x.end(12));
        due("all of it", 12, x.count(0));
        due("one less", 11, x.end(11));
        throwing("what is gone is gone", ARGUMENT, () -> x.end(12));
        due("its first 8", 8, x.end(8));
        x.put("<d>");
        due("more comes behind them", 11, x.count(0));
        x.put("</d>");
        due("elements", 3, x.source());
        x.tell(2, 0);
        due("the last", "d", x.out());
        x.put("<a/>");
        due("none of it", 0, x.end(0));
        due("nothing is a source", 0, x.source());
        Court full = new Court();
        full.put("x".repeat(8192));
        throwing("more than a full one", ARGUMENT, () -> full.end(8193));
        due("all of a full one", 8192, full.end(8192));
        due("one less", 8191, full.end(8191));
        throwing("that one is gone", ARGUMENT, () -> full.end(8192));
    }

    /** Promise 4: "THE TAPE is the SOURCE. BROKEN: UnsupportedOperationException (so for style, select)." */
    private static void source() {
        part = "promise 4";
        Court x = new Court();
        due("none", 0, x.source(""));
        due("none", 0, x.source("text"));
        due("one", 1, x.source("<a/>"));
        x.put("<b/><c>");
        throwing("broken", UNSUPPORTED, x::source);
        due("the former one stays", 1, x.count(4));
        due("a new one", 2, x.source("<b/><c/>"));
        due("in its place", 2, x.count(4));
        x.tell(0, 0);
        due("in its place", "b", x.out());
        x.put("a{");
        throwing("so for style", UNSUPPORTED, x::style);
        x.put("a{}");
        throwing("so for select", UNSUPPORTED, x::select);
        Court full = new Court();
        due("a full tape", 1, full.source("<a>" + "x".repeat(8185) + "</a>"));
        due("it begins", 0, full.element(0, 7));
        due("it ends", 8192, full.element(0, 8));
        due("its text", 8185, full.tell(0, 1));
    }

    /** Promise 5: "THE TAPE is the STYLE. Answers how many SELECTORS." */
    private static void style() {
        part = "promise 5";
        Court x = new Court();
        x.source("<a/>");
        due("none", 0, x.style(""));
        due("one", 1, x.style("a{s:1;}"));
        due("three", 3, x.style("a,b{s:2;}c{}"));
        due("in its place", "2 2", x.value(0, "s"));
        x.put("a{s:3;}b");
        throwing("broken", UNSUPPORTED, x::style);
        due("the former one stays", "2 2", x.value(0, "s"));
        due("the former one stays", 3, x.count(2));
        due("the elements stay", 1, x.count(4));
        Court full = new Court();
        due("a full tape", 1, full.style("a{s:\"" + "x".repeat(8184) + "\";}"));
        full.source("<a/>");
        full.put("s");
        due("a long string", 3, full.property(0));
        due("a long string", 8184, full.count(1));
    }

    /** Promise 6: "The PLACE of the latest source, style or select, if that was BROKEN, else -1." */
    private static void place() {
        part = "promise 6";
        Court x = new Court();
        due("before any", -1, x.place());
        x.put(">");
        throwing("style", UNSUPPORTED, x::style);
        due("at its first byte", 0, x.place());
        due("asked again", 0, x.place());
        x.source("<a/>");
        due("a good source", -1, x.place());
        x.put("a{");
        throwing("style", UNSUPPORTED, x::style);
        due("of a style", 2, x.place());
        x.select("a");
        due("a good select", -1, x.place());
        x.put("a[");
        throwing("select", UNSUPPORTED, x::select);
        due("of a select", 2, x.place());
        x.value(0, "s");
        x.by(0, "s");
        throwing("property", ARGUMENT, () -> x.property(1));
        throwing("end", ARGUMENT, () -> x.end(1));
        due("others leave it", 2, x.place());
        x.style("");
        due("a good style", -1, x.place());
        x.put("<ab");
        throwing("source", UNSUPPORTED, x::source);
        due("of a source", 3, x.place());
        x.put("<abc");
        throwing("source", UNSUPPORTED, x::source);
        due("of the latest", 4, x.place());
        Court full = new Court();
        full.put("<a>" + "x".repeat(8189));
        throwing("full", UNSUPPORTED, full::source);
        due("as far as can be", 8192, full.place());
    }

    /** Promise 7: "0 none, 1 a NAME, 2 a NUMBER, 3 a STRING; OUT is it (digits ..; without " ; nothing for none)" */
    private static void propertyKinds() {
        part = "promise 7: kinds";
        Court x = new Court();
        x.source("<a/><b/>");
        x.style("a{n:x;d:0;m:9999999;s:\"a b\";e:\"\";l:abcdefghijkl;q:\"5\";}");
        due("none", "0 ", x.value(0, "z"));
        due("a name", "1 x", x.value(0, "n"));
        due("the longest name", "1 abcdefghijkl", x.value(0, "l"));
        due("the least number", "2 0", x.value(0, "d"));
        due("the greatest number", "2 9999999", x.value(0, "m"));
        due("a string", "3 a b", x.value(0, "s"));
        due("a string of digits", "3 5", x.value(0, "q"));
        due("an empty string", "3 ", x.value(0, "e"));
        due("nothing is out", 0, x.count(1));
        throwing("nothing is out", INDEX, () -> x.word(0));
        x.value(0, "s");
        due("none of another", "0 ", x.value(1, "s"));
        due("nothing is out", 0, x.count(1));
        x.value(0, "s");
        for (int e : FAR_OUT) {
            x.put("n");
            throwing("element " + e, ARGUMENT, () -> x.property(e));
            due("out is as it was", "a b", x.out());
        }
    }

    /** Promise 7: "THE TAPE is the NAME of a property, byte by byte" */
    private static void propertyName() {
        part = "promise 7: name";
        Court x = new Court();
        x.source("<a/>");
        x.style("a{st:1;}");
        due("it", "2 1", x.value(0, "st"));
        for (String other : new String[] {"", "s", "t", "stt", "st ", " st", "st\n", "ST", "st\u0000", "\u0000st", "s t",
            "sT", "st:1", "\u00f3t", "s\u00f4", "*", "up"}) {
            due("not it: " + other, "0 ", x.value(0, other));
            due("not it: " + other, -1, x.by(0, other));
        }
        Court full = new Court();
        full.source("<a/>");
        full.style("a{st:1;}");
        full.put("st" + " ".repeat(8190));
        due("a full tape", 0, full.property(0));
        due("read", 0, full.count(0));
    }

    /** Promise 8: "the number (from 0, of all in STYLE, in order) of the one that counts ..; -1 without" */
    private static void by() {
        part = "promise 8";
        Court x = new Court();
        x.source("<a/><b/>");
        x.style("b{s:1;t:2;} a{t:3;} b,a{} *{u:4;} a{s:up;}");
        due("the first", 0, x.by(1, "s"));
        due("the second", 1, x.by(1, "t"));
        due("the third", 2, x.by(0, "t"));
        due("the fourth", 3, x.by(1, "u"));
        due("the last", 4, x.by(0, "s"));
        due("none", -1, x.by(0, "v"));
        due("none", -1, x.by(0, ""));
        x.value(1, "u");
        x.by(0, "v");
        due("out is as it was", "4", x.out());
        for (int e : FAR_OUT) {
            x.put("s");
            throwing("element " + e, ARGUMENT, () -> x.by(e));
        }
    }

    /** Promise 9: "THE TAPE is one SELECTOR: FOUND are the ELEMENTS that it fits, in order: how many." */
    private static void select() {
        part = "promise 9";
        selectBroken("", 0);
        selectBroken("a,b", 1);
        selectBroken("a,", 1);
        selectBroken("a{}", 1);
        selectBroken("a;", 1);
        selectBroken("a b", 2);
        selectBroken("a]", 1);
        Court x = new Court();
        x.source("<a><b/></a><a/>");
        due("none", 0, x.select("c"));
        due("none", 0, x.count(5));
        due("two", 2, x.select("a"));
        due("in order", 0, x.found(0));
        due("in order", 2, x.found(1));
        due("all", 3, x.select("*"));
        due("blanks around it", 1, x.select("\n b "));
        Court full = new Court();
        full.source("<a/>");
        due("a full tape", 1, full.select("a" + " ".repeat(8000)));
        Court most = new Court();
        most.source("<a/>".repeat(500));
        due("as many as can be", 500, most.select("*"));
        due("the first", 0, most.found(0));
        due("the last", 499, most.found(499));
        throwing("no other", INDEX, () -> most.found(500));
    }

    /** Promise 10: "The i-th FOUND .. by the latest select that was not BROKEN (none, behind a new SOURCE)" */
    private static void found() {
        part = "promise 10";
        Court x = new Court();
        throwing("before any", INDEX, () -> x.found(0));
        x.source("<a/><b/><a/>");
        throwing("before any", INDEX, () -> x.found(0));
        x.select("a");
        due("the first", 0, x.found(0));
        due("the last", 2, x.found(1));
        for (int i : FAR_OUT) {
            throwing("none " + i, INDEX, () -> x.found(i));
        }
        x.put("b[");
        throwing("broken", UNSUPPORTED, x::select);
        due("that of the latest good one", 2, x.found(1));
        x.put("<c>");
        throwing("broken", UNSUPPORTED, x::source);
        due("a broken source is none", 2, x.found(1));
        x.style("b{}");
        due("a style is no source", 2, x.found(1));
        x.source("<a/><b/><a/>");
        throwing("none behind a new one", INDEX, () -> x.found(0));
        due("none behind a new one", 0, x.count(5));
        x.select("b");
        due("another", 1, x.found(0));
        throwing("the former are gone", INDEX, () -> x.found(1));
        x.select("c");
        throwing("none", INDEX, () -> x.found(0));
    }

    /** Promise 11: "s 0 .. SELECTORS - 1: 1 if SELECTOR s of STYLE fits ELEMENT e, else 0." */
    private static void fits() {
        part = "promise 11";
        Court x = new Court();
        x.source("<a/><b/>");
        throwing("no selector", ARGUMENT, () -> x.fits(0, 0));
        x.style("a{}*,b{}");
        due("first of first", 1, x.fits(0, 0));
        due("first of last", 0, x.fits(0, 1));
        due("any", 1, x.fits(1, 0));
        due("last of first", 0, x.fits(2, 0));
        due("last of last", 1, x.fits(2, 1));
        for (int s : new int[] {Integer.MIN_VALUE, -1, 3, 4, 119, 120, Integer.MAX_VALUE}) {
            throwing("selector " + s, ARGUMENT, () -> x.fits(s, 0));
        }
        for (int e : FAR_OUT) {
            throwing("element " + e, ARGUMENT, () -> x.fits(0, e));
        }
        x.source("<b/>");
        due("of the new source", 0, x.fits(0, 0));
        due("of the new source", 1, x.fits(2, 0));
        throwing("the former are gone", ARGUMENT, () -> x.fits(0, 1));
    }

    /** Promise 12: what 0 .. 8 */
    private static void elementWhats() {
        part = "promise 12";
        Court x = new Court();
        x.source("<a/>x<b c=\"\" d=\"\">x<e/ ><f><g/></f ></b >");
        int[][] due = {
            {1, -1, -1, 0, 0, 0, 1, 0, 4},
            {2, -1, 0, 2, 0, 2, 0, 5, 41},
            {1, 1, -1, 0, 1, 0, 1, 19, 24},
            {2, 1, 2, 1, 1, 0, 0, 24, 36},
            {1, 3, -1, 0, 2, 0, 1, 27, 31},
        };
        for (int e = 0; e < due.length; e++) {
            for (int what = 0; what <= 8; what++) {
                due("element " + e + " what " + what, due[e][what], x.element(e, what));
            }
        }
        for (int what : new int[] {Integer.MIN_VALUE, -1, 9, 10, Integer.MAX_VALUE}) {
            throwing("what " + what, ARGUMENT, () -> x.element(0, what));
        }
        for (int e : new int[] {Integer.MIN_VALUE, -1, 5, 6, Integer.MAX_VALUE}) {
            for (int what : new int[] {0, 8, 9}) {
                throwing("element " + e, ARGUMENT, () -> x.element(e, what));
            }
        }
    }

    private static void elementLeastAndMost() {
        part = "promise 12: least and most";
        Court x = new Court();
        x.source("<a>" + "<b/>".repeat(499) + "</a>");
        due("its number", 499, x.element(499, 0));
        due("the one before it", 498, x.element(499, 2));
        due("none before the first", -1, x.element(1, 2));
        due("directly in it", 499, x.element(0, 3));
        due("in none", -1, x.element(0, 1));
        due("in none", 0, x.element(0, 4));
        Court deep = new Court();
        deep.source("<a>".repeat(20) + "</a>".repeat(20));
        due("only what is directly in it", 1, deep.element(0, 3));
        due("in 19", 19, deep.element(19, 4));
        due("directly in", 18, deep.element(19, 1));
        due("it begins", 57, deep.element(19, 7));
        due("it ends", 64, deep.element(19, 8));
        due("the outermost ends", 140, deep.element(0, 8));
    }

    /** Promise 13: "part 0: its NAME, 1: all text in it .., 2 + 2 i: the NAME of its FIELD i .., 3 + 2 i: its STRING" */
    private static void tellParts() {
        part = "promise 13: parts";
        Court x = new Court();
        x.source("<a/><ab b=\"1\" c=\"\" d=\"3\" e=\"4\" f=\"5\" g=\"" + "6".repeat(100) + "\">x<c>y<d/></c>z</ab>");
        String[] due = {"ab", "xyz", "b", "1", "c", "", "d", "3", "e", "4", "f", "5", "g", "6".repeat(100)};
        for (int p = 0; p < due.length; p++) {
            due("part " + p, due[p].length(), x.tell(1, p));
            due("part " + p, due[p], x.out());
        }
        due("no text", 0, x.tell(0, 1));
        due("no text", 0, x.count(1));
        x.tell(1, 0);
        for (int p : new int[] {Integer.MIN_VALUE, -2, -1, 14, 15, 16, Integer.MAX_VALUE - 1, Integer.MAX_VALUE}) {
            throwing("part " + p, ARGUMENT, () -> x.tell(1, p));
        }
        throwing("no field", ARGUMENT, () -> x.tell(0, 2));
        throwing("no field", ARGUMENT, () -> x.tell(0, 3));
        for (int e : new int[] {Integer.MIN_VALUE, -1, 4, 5, Integer.MAX_VALUE}) {
            throwing("element " + e, ARGUMENT, () -> x.tell(e, 0));
        }
        due("out is as it was", "ab", x.out());
    }

    /** Promise 13: "more than 16384 bytes: IndexOutOfBoundsException" */
    private static void tellTooMuch() {
        part = "promise 13: too much";
        Court x = new Court();
        x.source("<!k \"" + "x".repeat(4096) + "\"><!l \"" + "x".repeat(2700) + "\"><a>&k;&k;&k;<b>&k;</b></a>"
                + "<c>&k;&k;&k;<b>&k;</b>x</c><d e=\"f\">" + "&l;".repeat(300) + "</d>");
        due("as much as can be", 16384, x.tell(0, 1));
        due("some of it", 4096, x.tell(1, 1));
        x.tell(4, 3);
        throwing("one too much", INDEX, () -> x.tell(2, 1));
        throwing("far too much", INDEX, () -> x.tell(4, 1));
        due("out is as it was", "f", x.out());
        due("its other parts can be told", 1, x.tell(4, 2));
        due("and what is in it", 4096, x.tell(3, 1));
    }

    /** Promise 14: "8 bytes of OUT from i on, the highest first, zeros behind its end; i is none of its bytes: .." */
    private static void word() {
        part = "promise 14";
        Court x = new Court();
        throwing("of nothing", INDEX, () -> x.word(0));
        x.source("<a b=\"123456789\" c=\"\"/>");
        x.tell(0, 3);
        due("from 0", 0x3132333435363738L, x.word(0));
        due("the last eight", 0x3233343536373839L, x.word(1));
        due("seven, and a zero", 0x3334353637383900L, x.word(2));
        due("the last byte", 0x3900000000000000L, x.word(8));
        for (int i : new int[] {Integer.MIN_VALUE, -1, 9, 10, 16383, Integer.MAX_VALUE}) {
            throwing("byte " + i, INDEX, () -> x.word(i));
        }
        x.tell(0, 0);
        due("nothing of what was out before", 0x6100000000000000L, x.word(0));
        throwing("nothing of what was out before", INDEX, () -> x.word(1));
        x.tell(0, 5);
        throwing("of nothing", INDEX, () -> x.word(0));
    }

    /** Promise 15: "what 0: bytes of THE TAPE .. 6: the WEIGHT of the latest select that was not BROKEN (0 before)" */
    private static void counts() {
        part = "promise 15";
        Court x = new Court();
        x.source("<a/><bcd/><a/>");
        x.style("a,b{s:1;t:2;}c{s:3;}");
        due("weight before", 0, x.count(6));
        x.put("a[");
        throwing("broken", UNSUPPORTED, x::select);
        due("still 0", 0, x.count(6));
        x.select("a:not(b)");
        x.put("b");
        throwing("broken", UNSUPPORTED, () -> x.select() + x.select());
        // Of these two the first was good, the second was of an empty tape.
        due("of the latest good one", 1, x.count(6));
        x.select("a:not(b)");
        x.tell(1, 0);
        x.put("12345");
        int[] due = {5, 3, 3, 3, 3, 2, 101};
        for (int what = 0; what <= 6; what++) {
            due("what " + what, due[what], x.count(what));
        }
        for (int what : new int[] {Integer.MIN_VALUE, -1, 7, 8, 9, 130, 131, Integer.MAX_VALUE}) {
            throwing("what " + what, ARGUMENT, () -> x.count(what));
        }
        x.end(0);
        x.source("");
        due("elements", 0, x.count(4));
        due("found", 0, x.count(5));
        due("weight", 101, x.count(6));
        x.style("");
        due("weight", 101, x.count(6));
    }

    /** Promise 15: "10 ..: the WEIGHT of SELECTOR what - 10 (-1: there is none), up to 129" */
    private static void countWeights() {
        part = "promise 15: weights";
        Court x = new Court();
        x.style("a{}*{}a:first>b{}");
        int[] due = {1, 0, 102, -1};
        for (int s = 0; s < due.length; s++) {
            due("selector " + s, due[s], x.count(10 + s));
        }
        due("the last that can be", -1, x.count(129));
        throwing("none can be", ARGUMENT, () -> x.count(130));
        x.style("a{}".repeat(119));
        due("selector 118", 1, x.count(128));
        due("selector 119", -1, x.count(129));
        x.style("*{}" + "a{}".repeat(118) + "*:first{}");
        due("selector 0", 0, x.count(10));
        due("selector 118", 1, x.count(128));
        due("selector 119", 100, x.count(129));
        throwing("none can be", ARGUMENT, () -> x.count(130));
        x.put("a{");
        throwing("broken", UNSUPPORTED, x::style);
        due("as it was", 100, x.count(129));
    }

    // An object that has been used, and all that it answers

    private static final int LIVED_PLACE = 2;
    private static final String LIVED = state(lived());

    private static Court lived() {
        Court x = new Court();
        x.source("<a k=\"v\">x<b/></a>");
        x.style("a{s:1;}");
        x.select("b:first");
        x.tell(0, 0);
        x.put("b[");
        try {
            x.select();
        } catch (UnsupportedOperationException e) {
            return x;
        }
        throw new AssertionError("the selector was not broken");
    }

    /** All that can be asked of such an object, but THE TAPE, which must be empty, and PLACE. */
    private static String state(Court x) {
        StringBuilder all = new StringBuilder(x.out());
        for (int what : new int[] {2, 3, 4, 5, 6, 10, 11}) {
            all.append(" ").append(x.count(what));
        }
        for (int i = 0; i < 2; i++) {
            int one = i;
            all.append(" ").append(thrownBy(() -> x.found(one)));
            all.append(" ").append(thrownBy(() -> x.fits(0, one)));
            all.append(" ").append(thrownBy(() -> x.fits(one, 0)));
        }
        for (int e = 0; e < 2; e++) {
            for (int what = 0; what <= 8; what++) {
                all.append(" ").append(x.element(e, what));
            }
        }
        for (int p = 0; p < 8; p++) {
            int one = p;
            all.append(" ").append(thrownBy(() -> x.tell(one / 4, one % 4))).append(x.out());
        }
        all.append(" ").append(x.by(0, "s")).append(" ").append(x.value(0, "s"));
        all.append(" ").append(x.value(1, "s")).append(" ").append(x.value(0, "t"));
        return all.toString();
    }

    // What the tests are made of

    private static void sourceTaken(String text, int elements) {
        Court x = new Court();
        x.put(text);
        due(text, String.valueOf(elements), thrownBy(x::source));
        due(text + ": place", -1, x.place());
        due(text + ": tape", 0, x.count(0));
        due(text + ": elements", elements, x.count(4));
    }

    private static void sourceBroken(String text, int place) {
        Court x = lived();
        x.put(text);
        throwing(text, UNSUPPORTED, x::source);
        brokenAt(text, place, x);
    }

    private static void styleTaken(String text, int selectors, int told) {
        Court x = new Court();
        x.put(text);
        due(text, String.valueOf(selectors), thrownBy(x::style));
        due(text + ": place", -1, x.place());
        due(text + ": tape", 0, x.count(0));
        due(text + ": selectors", selectors, x.count(2));
        due(text + ": told", told, x.count(3));
    }

    private static void styleBroken(String text, int place) {
        Court x = lived();
        x.put(text);
        throwing(text, UNSUPPORTED, x::style);
        brokenAt(text, place, x);
    }

    /** As it is asked for, and as it stands in a style. */
    private static void selectorTaken(String text, int weight) {
        Court x = new Court();
        x.put(text);
        due(text, "0", thrownBy(x::select));
        due(text + ": place", -1, x.place());
        due(text + ": tape", 0, x.count(0));
        due(text + ": weight", weight, x.count(6));
        x.put(text + "{}");
        due(text, "1", thrownBy(x::style));
        due(text + ": weight", weight, x.count(10));
    }

    private static void selectorBroken(String text, int place) {
        selectBroken(text, place);
        styleBroken(text + "{}", place);
    }

    private static void selectBroken(String text, int place) {
        Court x = lived();
        x.put(text);
        throwing(text, UNSUPPORTED, x::select);
        brokenAt(text, place, x);
    }

    private static void brokenAt(String text, int place, Court x) {
        due(text + ": place", place, x.place());
        due(text + ": tape", 0, x.count(0));
        due(text + ": all else", LIVED, state(x));
    }

    /** All elements that the selector fits, as it is asked for, and as it stands in a style. */
    private static void fits(String page, String selector, String due) {
        Court x = new Court();
        int n = x.source(page);
        int many = x.select(selector);
        StringBuilder found = new StringBuilder();
        for (int i = 0; i < many; i++) {
            found.append(i == 0 ? "" : " ").append(x.found(i));
        }
        due(selector, due, found.toString());
        x.style(selector + "{}");
        for (int e = Math.max(0, n - 100); e < n; e++) {
            int one = (" " + due + " ").contains(" " + e + " ") ? 1 : 0;
            due(selector + " of " + e, one, x.fits(0, e));
        }
    }

    private static void throwing(String what, String due, Call call) {
        due(what, due, thrownBy(call));
    }

    private static String thrownBy(Call call) {
        try {
            return Long.toString(call.answer());
        } catch (RuntimeException e) {
            return e.getClass().getSimpleName();
        }
    }

    private static void due(String what, long due, long got) {
        due(what, Long.valueOf(due), Long.valueOf(got));
    }

    private static void due(String what, Object due, Object got) {
        asked++;
        if (!due.equals(got)) {
            wrong++;
            String shown = what.length() <= 100 ? what : what.substring(0, 50) + " .. " + what.substring(what.length() - 45);
            System.out.println(part + ": " + shown + " answered " + got + ", due is " + due);
        }
    }

    private static boolean isSmall(int b) {
        return b >= 97 && b <= 122;
    }

    private static boolean isDigit(int b) {
        return b >= 48 && b <= 57;
    }

    private static boolean isBlank(int b) {
        return b == 10 || b == 32;
    }

    /** An object that counts its calls, since nothing is promised behind the 512th. */
    private static final class Court {
        private final StyleCourt it = new StyleCourt();
        private int calls = 0;
        private int onTape = 0;

        private StyleCourt next() {
            calls++;
            if (calls == MOST_CALLS + 1) {
                due("the test makes too many calls", MOST_CALLS, calls);
            }
            return it;
        }

        int feed(int a, int b, int c, int d, int e) {
            onTape = next().feed(a, b, c, d, e);
            return onTape;
        }

        int end(int n) {
            onTape = next().end(n);
            return onTape;
        }

        int source() {
            onTape = 0;
            return next().source();
        }

        int style() {
            onTape = 0;
            return next().style();
        }

        int place() {
            return next().place();
        }

        int property(int e) {
            onTape = 0;
            return next().property(e);
        }

        int by(int e) {
            onTape = 0;
            return next().by(e);
        }

        int select() {
            onTape = 0;
            return next().select();
        }

        int found(int i) {
            return next().found(i);
        }

        int fits(int s, int e) {
            return next().fits(s, e);
        }

        int element(int e, int what) {
            return next().element(e, what);
        }

        int tell(int e, int part) {
            return next().tell(e, part);
        }

        long word(int i) {
            return next().word(i);
        }

        int count(int what) {
            return next().count(what);
        }

        /** What is no full row of 20 bytes comes first, so that a full tape can be had. */
        void put(String text) {
            byte[] bytes = text.getBytes(StandardCharsets.ISO_8859_1);
            int odd = bytes.length % 20;
            int from = 0;
            if (odd > 0) {
                int before = onTape;
                feedRow(Arrays.copyOf(Arrays.copyOf(bytes, odd), 20), 0);
                end(before + odd);
                from = odd;
            }
            for (; from < bytes.length; from += 20) {
                feedRow(bytes, from);
            }
        }

        private void feedRow(byte[] bytes, int from) {
            int[] row = new int[5];
            for (int k = 0; k < 20; k++) {
                row[k / 4] = row[k / 4] << 8 | bytes[from + k] & 255;
            }
            feed(row[0], row[1], row[2], row[3], row[4]);
        }

        int source(String text) {
            put(text);
            return source();
        }

        int style(String text) {
            put(text);
            return style();
        }

        int select(String text) {
            put(text);
            return select();
        }

        int by(int e, String name) {
            put(name);
            return by(e);
        }

        String value(int e, String name) {
            put(name);
            return property(e) + " " + out();
        }

        String out() {
            int length = count(1);
            StringBuilder text = new StringBuilder();
            for (int i = 0; i < length; i += 8) {
                long word = word(i);
                for (int k = 0; k < 8 && i + k < length; k++) {
                    text.append((char) (word >>> 56 - 8 * k & 255));
                }
            }
            return text.toString();
        }
    }
}
