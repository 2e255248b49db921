import java.nio.charset.StandardCharsets;

/** Each promise of the document: ordinary inputs, the edges that are named, and wrong inputs. */
public final class StyleCourtTest {
    private static final String PAGE = "<!a \"x y\"><doc id=\"r\"><h lang=\"de\">T&a;</h><p>one <b>two</b> <i/>three</p>"
            + "<p class=\"k\"></p><ul><li>1</li><li class=\"k\">2<li>3</li></li><li/></ul><!-- no --><p> </p></doc>"
            + "<doc/>tail";

    private static int wrong = 0;
    private static String part = "";

    private interface Call {
        long answer();
    }

    public static void main(String[] args) {
        newObject();
        feed();
        end();
        sourceGood();
        sourceBroken();
        sourceLimits();
        sourceChangesNothingIfBroken();
        styleGood();
        styleBroken();
        styleLimits();
        styleChangesNothingIfBroken();
        place();
        property();
        propertyFromOuter();
        by();
        select();
        conditions();
        links();
        found();
        fits();
        element();
        tell();
        tellTooMuch();
        word();
        count();
        System.out.println(wrong == 0 ? "all answers are as due" : wrong + " answers are not as due");
        if (wrong != 0) {
            System.exit(1);
        }
    }

    // Promise 1

    private static void newObject() {
        part = "new object";
        StyleCourt x = new StyleCourt();
        for (int what = 0; what <= 6; what++) {
            due("count " + what, 0, x.count(what));
        }
        due("no selector", -1, x.count(10));
        due("place", -1, x.place());
        throwsArgument("no element", () -> x.element(0, 0));
        throwsArgument("no selector", () -> x.fits(0, 0));
        throwsIndex("nothing found", () -> x.found(0));
        throwsIndex("nothing out", () -> x.word(0));
        due("select without elements", 0, select(x, "*"));
    }

    // Promise 2

    private static void feed() {
        part = "feed";
        StyleCourt x = new StyleCourt();
        // The highest byte of each int comes first.
        due("length", 20, x.feed(0x3c616263, 0x64656667, 0x68696a3e, 0x3c2f6162, 0x63646566));
        due("length", 40, x.feed(0x6768696a, 0x3e000000, 0, 0, 0));
        due("cut", 25, x.end(25));
        due("one element", 1, x.source());
        due("its name", 10, x.tell(0, 0));
        due("its name", 0x6162636465666768L, x.word(0));

        StyleCourt y = new StyleCourt();
        y.feed(0, 0, 0, 0, 0);
        y.end(12);
        for (int i = 1; i <= 409; i++) {
            due("length", 12 + 20 * i, y.feed(i, i, i, i, i));
        }
        due("full", 8192, y.count(0));
        throwsIndex("one too much", () -> y.feed(1, 2, 3, 4, 5));
        due("as it was", 8192, y.count(0));
        y.end(8173);
        throwsIndex("one byte too much", () -> y.feed(1, 2, 3, 4, 5));
        due("as it was", 8173, y.count(0));
        y.end(8172);
        due("just room enough", 8192, y.feed(1, 2, 3, 4, 5));
    }

    // Promise 3

    private static void end() {
        part = "end";
        StyleCourt x = new StyleCourt();
        due("nothing of nothing", 0, x.end(0));
        throwsArgument("more than there is", () -> x.end(1));
        x.feed(0, 0, 0, 0, 0);
        throwsArgument("more than there is", () -> x.end(21));
        throwsArgument("less than nothing", () -> x.end(-1));
        due("as it was", 20, x.count(0));
        due("all", 20, x.end(20));
        due("some", 7, x.end(7));
        throwsArgument("what was cut", () -> x.end(8));
        due("tape", 7, x.count(0));
        due("none", 0, x.end(0));
    }

    // Promise 4

    private static void sourceGood() {
        part = "source";
        good("", 0);
        good("only text > \n ] \" ~", 0);
        good("<a/>", 1);
        good("<a></a>", 1);
        good("<a />", 1);
        good("<a/ >", 1);
        good("<a / >", 1);
        good("<a ></a >", 1);
        good("<a\n></a\n\n>", 1);
        good("<a b=\"\"/>", 1);
        good("<a b = \"<&>\" c=\"'\"/>", 1);
        good("<a\nb\n=\n\"\"\n/\n>", 1);
        good("<abcdefghijkl/>", 1);
        good("<a1b2/>", 1);
        good("<!---->", 0);
        good("<!-- <a> -- > &x; \u0000\u00ff --><a/>", 1);
        good("<!--->-->", 0);
        good("<!a\"\">&a;", 0);
        good("<!a \"\" >&a;", 0);
        good("<!a\n\"b\"><b>&a;</b>", 1);
        good("<b><!a \"x\"></b>&a;", 1);
        good("<!ltx \"\"><!am \"\">&ltx;&am;&lt;&amp;", 0);
        good("<a><b><c/></b><b/></a><a/>", 5);
        good("<a b=\"1\" c=\"1\" d=\"1\" e=\"1\" f=\"1\" g=\"1\"/>", 1);
        good(PAGE, 13);
    }

    private static void sourceBroken() {
        part = "source broken";
        broken("a\tb", 1);
        broken("\u0000", 0);
        broken("ab\u007f", 2);
        broken("ab\u0080", 2);
        broken("\r", 0);
        broken("<", 1);
        broken("< a/>", 1);
        broken("<A/>", 1);
        broken("<1/>", 1);
        broken("x<abcdefghijklm/>", 2);
        broken("<a", 2);
        broken("<a ", 3);
        broken("<aB>", 2);
        broken("<a b", 4);
        broken("<a b>", 4);
        broken("<a b c>", 5);
        broken("<a b=", 5);
        broken("<a b=c>", 5);
        broken("<a b=c d=\"e\">", 5);
        broken("<a b=\"c>", 5);
        broken("<a b=\"c\n\">", 5);
        broken("<a b=\"c\u0080\">", 5);
        broken("<a b=\"c\"", 8);
        broken("<a b=\"c\"d=\"e\">", 8);
        broken("<a b=\"c\" b=\"d\">", 9);
        broken("<a =\"c\">", 3);
        broken("<a b=\"c\" ,>", 9);
        broken("<a bcdefghijklmn=\"c\">", 3);
        broken("<a/", 3);
        broken("<a/x>", 3);
        broken("<a / x>", 5);
        broken("<a>", 3);
        broken("<a>text", 7);
        broken("</a>", 1);
        broken("<a/></a>", 5);
        broken("<a></b>", 5);
        broken("<a></ab>", 5);
        broken("<ab></a>", 6);
        broken("<a><b></a></b>", 8);
        broken("<a></ a>", 5);
        broken("<a>< /a>", 4);
        broken("<a></", 5);
        broken("<a></a", 6);
        broken("<a></a b>", 7);
        broken("<a></abcdefghijklm>", 5);
        broken("&", 1);
        broken("& lt;", 1);
        broken("&LT;", 1);
        broken("&lt", 3);
        broken("&lt ;", 3);
        broken("&x;", 1);
        broken("&x", 1);
        broken("&ltx;", 1);
        broken("&x;<!x \"\">", 1);
        broken("&abcdefghijklm;", 1);
        broken("<!", 2);
        broken("<! a \"\">", 2);
        broken("<!1", 2);
        broken("<!-", 3);
        broken("<!- -->", 3);
        broken("<!-a", 3);
        broken("<!--", 4);
        broken("<!-->", 5);
        broken("<!--->", 6);
        broken("<!-- -- >", 9);
        broken("<!----", 6);
        broken("<!-- -", 6);
        broken("<!a", 3);
        broken("<!a b>", 4);
        broken("<!a \"b>", 4);
        broken("<!a \"b\"", 7);
        broken("<!a \"b\" c>", 8);
        broken("<!a \"b<\">", 4);
        broken("<!a   \"&b;\">", 6);
        broken("<!a \"b\nc\">", 4);
        broken("<!lt \"b\">", 2);
        broken("<!amp \"b\">", 2);
        broken("<!a \"\"><!a \"\">", 9);
        broken("<!abcdefghijklm \"\">", 2);
        broken("<a b=\"1\" c=\"1\" d=\"1\" e=\"1\" f=\"1\" g=\"1\" h=\"1\"/>", 39);
    }

    private static void sourceLimits() {
        part = "source limits";
        good("<a/>".repeat(500), 500);
        broken("<a/>".repeat(501), 2001);
        good("<a>".repeat(20) + "</a>".repeat(20), 20);
        good("<a>".repeat(19) + "<b/><b/>" + "</a>".repeat(19), 21);
        broken("<a>".repeat(21) + "</a>".repeat(21), 61);
        broken("<a>".repeat(20) + "<b/>" + "</a>".repeat(20), 61);
        StringBuilder entities = new StringBuilder();
        for (int i = 0; i < 40; i++) {
            entities.append("<!e").append(i).append(" \"\">");
        }
        good(entities.toString(), 0);
        good(entities + "&e0;&e39;&lt;&amp;", 0);
        broken(entities + "<!more \"\">", entities.length() + 2);
    }

    private static void sourceChangesNothingIfBroken() {
        part = "source that is broken";
        StyleCourt x = new StyleCourt();
        source(x, PAGE);
        select(x, "p");
        x.tell(0, 0);
        put(x, "<q/><r>");
        throwsUnsupported("broken", () -> x.source());
        due("tape", 0, x.count(0));
        due("out", 3, x.count(1));
        due("elements", 13, x.count(4));
        due("found", 3, x.count(5));
        due("found", 2, x.found(0));
        due("name", "doc", name(x, 0));
    }

    // Promise 5

    private static void styleGood() {
        part = "style";
        goodStyle("", 0, 0);
        goodStyle(" \n ", 0, 0);
        goodStyle("a{}", 1, 0);
        goodStyle("a{b:c;}", 1, 1);
        goodStyle(" a , b{ c : 1 % ! ; d : \"x;}\" ! ; e : up ; }\n* { c : 0 ; }", 3, 4);
        goodStyle("a>b/c+d{}", 1, 0);
        goodStyle("a [ b ] [ c = \"d\" ] : first : nth ( 0 ) > * : not ( e ) : last : empty { }", 1, 0);
        goodStyle("a{b:9999999;c:0000001;d:1000%;e:0001%;}", 1, 4);
        goodStyle("abcdefghijkl{abcdefghijkl:abcdefghijkl;}", 1, 1);
        goodStyle("a[b][b][b][b]>a:first:first:first:first{}", 1, 0);
        goodStyle("a>a>a>a>a>a>a>a{}", 1, 0);
        goodStyle("a{up:up;}", 1, 1);
        goodStyle("first{first:first;first:last;}", 1, 2);
    }

    private static void styleBroken() {
        part = "style broken";
        brokenStyle("a", 1);
        brokenStyle("a ", 2);
        brokenStyle("a b{}", 2);
        brokenStyle("a,{}", 2);
        brokenStyle(",a{}", 0);
        brokenStyle("{}", 0);
        brokenStyle("a{", 2);
        brokenStyle("a{}}", 3);
        brokenStyle("a{} ;", 4);
        brokenStyle("A{}", 0);
        brokenStyle("a\t{}", 1);
        brokenStyle("a{}\u0000", 3);
        brokenStyle("a\u00ff{}", 1);
        brokenStyle("1{}", 0);
        brokenStyle("a>{}", 2);
        brokenStyle("a>>b{}", 2);
        brokenStyle(">a{}", 0);
        brokenStyle("a**{}", 1);
        brokenStyle("a*{}", 1);
        brokenStyle("*a{}", 1);
        brokenStyle("abcdefghijklm{}", 0);
        brokenStyle("a { abcdefghijklm : 1 ; }", 4);
        brokenStyle("a { b : abcdefghijklm ; }", 8);
        brokenStyle("a { b : 12345678 ; }", 8);
        brokenStyle("a { b : 00000001 ; }", 8);
        brokenStyle("a { b : 0 % ; }", 8);
        brokenStyle("a { b : 1001 % ; }", 8);
        brokenStyle("a { b : c % ; }", 10);
        brokenStyle("a { b : \"c\" % ; }", 12);
        brokenStyle("a { b : 1 % % ; }", 12);
        brokenStyle("a { b : 1 ! % ; }", 12);
        brokenStyle("a { b : 1 ! ! ; }", 12);
        brokenStyle("a { b : 1px ; }", 9);
        brokenStyle("a { b : -1 ; }", 8);
        brokenStyle("a { b : ; }", 8);
        brokenStyle("a { b : ! ; }", 8);
        brokenStyle("a { b ; }", 6);
        brokenStyle("a { b : c }", 10);
        brokenStyle("a { b : c d ; }", 10);
        brokenStyle("a { b : c ; ; }", 12);
        brokenStyle("a { b : c ;", 11);
        brokenStyle("a { b : c", 9);
        brokenStyle("a { b :", 7);
        brokenStyle("a { b", 5);
        brokenStyle("a { \"b\" : c ; }", 4);
        brokenStyle("a { b : \"c ; }", 8);
        brokenStyle("a { b : \"c\n\" ; }", 8);
        brokenStyle("a { b : \"c\u007f\" ; }", 8);
        brokenStyle("a[{}", 2);
        brokenStyle("a[]{}", 2);
        brokenStyle("a[b{}", 3);
        brokenStyle("a[b=]{}", 4);
        brokenStyle("a[b=c]{}", 4);
        brokenStyle("a[b=1]{}", 4);
        brokenStyle("a[b=\"c]{}", 4);
        brokenStyle("a[b=\"c\"{}", 7);
        brokenStyle("a[\"b\"]{}", 2);
        brokenStyle("a:{}", 2);
        brokenStyle("a: second{}", 3);
        brokenStyle("a:firsts{}", 2);
        brokenStyle("a:1{}", 2);
        brokenStyle("a:first(1){}", 7);
        brokenStyle("a:nth{}", 5);
        brokenStyle("a:nth(){}", 6);
        brokenStyle("a:nth(b){}", 6);
        brokenStyle("a:nth(12345678){}", 6);
        brokenStyle("a:nth(1{}", 7);
        brokenStyle("a:not{}", 5);
        brokenStyle("a:not(){}", 6);
        brokenStyle("a:not(*){}", 6);
        brokenStyle("a:not(1){}", 6);
        brokenStyle("a:not(b{}", 7);
        brokenStyle("a:nth(1", 7);
        brokenStyle("a[b]:first:last[c] : empty{}", 19);
        brokenStyle("a[b][b][b][b] [b]{}", 14);
        brokenStyle("a>a>a>a>a>a>a>a> a{}", 17);
        brokenStyle("a>a>a>a>a>a>a>a>{}", 16);
        brokenStyle("a>a>a>a>a>a>a>a>", 16);
        brokenStyle("a[b=c d=\"e\"]{}", 4);
    }

    private static void styleLimits() {
        part = "style limits";
        goodStyle("a{}".repeat(120), 120, 0);
        goodStyle("a,".repeat(119) + "a{}", 120, 0);
        brokenStyle("a{}".repeat(120) + " a{}", 361);
        brokenStyle("a,".repeat(120) + "a{}", 240);
        brokenStyle("a,".repeat(120) + "{}", 240);
        goodStyle("a{" + "b:1;".repeat(600) + "}", 1, 600);
        goodStyle("a,b{" + "b:1;".repeat(600) + "}", 2, 600);
        goodStyle(("a{" + "b:1;".repeat(300) + "}").repeat(2), 2, 600);
        brokenStyle("a{" + "b:1;".repeat(600) + " b:1;}", 2403);
        StringBuilder names = new StringBuilder("a{");
        for (int i = 0; i < 30; i++) {
            names.append("b").append(i).append(":1;");
        }
        goodStyle(names + "}", 1, 30);
        goodStyle(names + "b0:2;}a{b29:1;}", 2, 32);
        brokenStyle(names + "c:1;}", names.length());
        brokenStyle(names + "}d{c:1;}", names.length() + 3);
    }

    private static void styleChangesNothingIfBroken() {
        part = "style that is broken";
        StyleCourt x = new StyleCourt();
        source(x, PAGE);
        style(x, "p, b { size: 1; color: red; }");
        put(x, "ul { size: 2; } ul[ { size: 3; }");
        throwsUnsupported("broken", () -> x.style());
        due("tape", 0, x.count(0));
        due("selectors", 2, x.count(2));
        due("told", 2, x.count(3));
        due("value", "2 1", value(x, 2, "size"));
        due("value", "0 ", value(x, 6, "size"));
        due("a new one", 0, style(x, ""));
        due("value", "0 ", value(x, 2, "size"));
    }

    // Promise 6

    private static void place() {
        part = "place";
        StyleCourt x = new StyleCourt();
        put(x, "ab<1");
        throwsUnsupported("source", () -> x.source());
        due("source", 3, x.place());
        put(x, "size");
        throwsArgument("property", () -> x.property(0));
        due("still that of source", 3, x.place());
        due("source", 1, source(x, "<a/>"));
        due("good", -1, x.place());
        put(x, "a{b}");
        throwsUnsupported("style", () -> x.style());
        due("style", 3, x.place());
        throwsArgument("count", () -> x.count(7));
        value(x, 0, "size");
        due("still that of style", 3, x.place());
        due("select", 1, select(x, "a"));
        due("good", -1, x.place());
        throwsUnsupported("select", () -> x.select());
        due("select of nothing", 0, x.place());
        due("style", 1, style(x, "a{}"));
        due("good", -1, x.place());
    }

    // Promise 7

    private static void property() {
        part = "property";
        StyleCourt x = new StyleCourt();
        source(x, PAGE);
        style(x, "p { size: 5; color: red; mark: \"a b!\"; none: \"\"; zero: 0; long: 0000120; most: 9999999; }");
        due("number", "2 5", value(x, 2, "size"));
        due("name", "1 red", value(x, 2, "color"));
        due("string", "3 a b!", value(x, 2, "mark"));
        due("empty string", "3 ", value(x, 2, "none"));
        due("zero", "2 0", value(x, 2, "zero"));
        due("digits", "2 120", value(x, 2, "long"));
        due("seven digits", "2 9999999", value(x, 2, "most"));
        due("not told", "0 ", value(x, 2, "width"));
        due("byte by byte", "0 ", value(x, 2, "size "));
        due("byte by byte", "0 ", value(x, 2, " size"));
        due("byte by byte", "0 ", value(x, 2, "siz"));
        due("no name", "0 ", value(x, 2, ""));
        due("no name", "0 ", value(x, 2, "\u0000\u00ff".repeat(50)));
        due("other element", "0 ", value(x, 0, "size"));
        due("tape", 0, x.count(0));

        value(x, 2, "color");
        put(x, "size");
        throwsArgument("no such element", () -> x.property(13));
        due("tape", 0, x.count(0));
        due("out as it was", "red", out(x));
        put(x, "size");
        throwsArgument("no such element", () -> x.property(-1));
        throwsArgument("no such element", () -> x.property(Integer.MIN_VALUE));
        throwsArgument("no such element", () -> x.property(Integer.MAX_VALUE));

        style(x, "p { s: 1; } p { s: 2; }");
        due("the last told", "2 2", value(x, 2, "s"));
        style(x, "doc > p { s: 1; } p { s: 2; }");
        due("the greatest weight", "2 1", value(x, 2, "s"));
        style(x, "p { s: 1 !; } doc > p { s: 2; }");
        due("ahead of all", "2 1", value(x, 2, "s"));
        style(x, "doc > p { s: 1 !; } p { s: 2 !; }");
        due("ahead of all, by weight", "2 1", value(x, 2, "s"));
        style(x, "p { s: 1 !; } p { s: 2 !; }");
        due("ahead of all, the last", "2 2", value(x, 2, "s"));
        style(x, "p { s: 1; s: 2 !; s: 3; }");
        due("within one rule", "2 2", value(x, 2, "s"));
        style(x, "p { s: 1; s: 2; }");
        due("within one rule the last", "2 2", value(x, 2, "s"));
        style(x, "p { s: 1 !; s: 2 !; }");
        due("within one rule the last", "2 2", value(x, 2, "s"));
        style(x, "ul { s: 1; } p { t: 2; } doc { s: 3; }");
        due("of its own rule alone", "0 ", value(x, 2, "s"));
        due("of its own rule alone", "2 2", value(x, 2, "t"));
        style(x, "* { s: 1; }");
        due("weight 0", "2 1", value(x, 2, "s"));
        style(x, "doc > p, p { s: 1; } p { s: 2; }");
        due("the greatest weight of those that fit", "2 1", value(x, 2, "s"));
        style(x, "p, ul > p { s: 1; } p { s: 2; }");
        due("not of those that don't", "2 2", value(x, 2, "s"));
        style(x, "* > * > p { s: 3; } ul, p { s: 1; } *:not(p) { s: 7; }");
        due("weight of * is none", "2 1", value(x, 2, "s"));
    }

    private static void propertyFromOuter() {
        part = "property from outer";
        StyleCourt x = new StyleCourt();
        source(x, "<a><b><c><d/></c></b></a><c/>");
        style(x, "a { s: 999; t: up; u: \"x\"; w: red; } b { s: 33%; t: up; u: up; w: 50%; }"
                + "c { s: 50%; t: 5; u: up; v: up; w: up; } d { s: up; t: 1000%; u: 10%; v: 10%; w: 20%; }");
        due("told", "2 999", value(x, 0, "s"));
        due("rounded down", "2 329", value(x, 1, "s"));
        due("rounded down each", "2 164", value(x, 2, "s"));
        due("up", "2 164", value(x, 3, "s"));
        due("share of nothing", "0 ", value(x, 4, "s"));
        due("up of nothing", "0 ", value(x, 0, "t"));
        due("up of up of nothing", "0 ", value(x, 1, "t"));
        due("ten times", "2 50", value(x, 3, "t"));
        due("string from above", "3 x", value(x, 2, "u"));
        due("share of a string", "0 ", value(x, 3, "u"));
        due("up where it is not told", "0 ", value(x, 2, "v"));
        due("share of none", "0 ", value(x, 3, "v"));
        due("share of a name", "0 ", value(x, 1, "w"));
        due("up of a share of a name", "0 ", value(x, 2, "w"));
        due("share of that", "0 ", value(x, 3, "w"));
        due("not in any", "0 ", value(x, 4, "u"));
        style(x, "a { s: 9999999; t: 3; u: \"up\"; } b { s: 1000%; t: 33%; u: up !; } c { s: 50%; t: 1000%; } d { s: 100%; }");
        due("at most", "2 9999999", value(x, 1, "s"));
        due("half of the most", "2 4999999", value(x, 2, "s"));
        due("all of it", "2 4999999", value(x, 3, "s"));
        due("nothing left", "2 0", value(x, 1, "t"));
        due("ten times nothing", "2 0", value(x, 2, "t"));
        due("the string up is only a string", "3 up", value(x, 0, "u"));
        due("the name up with !", "3 up", value(x, 1, "u"));
        StyleCourt y = new StyleCourt();
        source(y, "<a>".repeat(20) + "</a>".repeat(20));
        style(y, "* { s: 200%; t: up; u: up; } *:not(a) { s: 1; } a[x] { u: 2; } a:nth(0) { t: 1; }");
        due("as deep as can be", "0 ", value(y, 19, "s"));
        due("as deep as can be", "0 ", value(y, 19, "t"));
    }

    // Promise 8

    private static void by() {
        part = "by";
        StyleCourt x = new StyleCourt();
        source(x, PAGE);
        style(x, "p { a: 1; b: 2; } ul, p, doc > p { a: 3; } p[class] { b: 4; c: up; } doc { c: up; }");
        due("the heavier", 2, by(x, 2, "a"));
        due("the heavier", 2, by(x, 5, "a"));
        due("first rule", 1, by(x, 2, "b"));
        due("with a condition", 3, by(x, 5, "b"));
        due("counts though it leads to none", 4, by(x, 5, "c"));
        due("counts though it leads to none", 5, by(x, 0, "c"));
        due("none", -1, by(x, 2, "c"));
        due("none", -1, by(x, 2, "d"));
        due("no name", -1, by(x, 2, ""));
        value(x, 2, "a");
        due("out as it was", "3", out(x));
        put(x, "a");
        throwsArgument("no such element", () -> x.by(13));
        due("tape", 0, x.count(0));
        throwsArgument("no such element", () -> x.by(-1));
    }

    // Promise 9

    private static void select() {
        part = "select";
        StyleCourt x = new StyleCourt();
        source(x, PAGE);
        due("all", "0 1 2 3 4 5 6 7 8 9 10 11 12", chosen(x, "*"));
        due("by name", "2 5 11", chosen(x, " p\n"));
        due("none", "", chosen(x, "q"));
        String[] texts = {"", "p,b", "p{}", "p b", "p >", "p[", "p:x", "p[a][a][a][a][a]", "a>a>a>a>a>a>a>a>a"};
        int[] places = {0, 1, 1, 2, 3, 2, 2, 13, 16};
        chosen(x, "p[class]");
        for (int i = 0; i < texts.length; i++) {
            put(x, texts[i]);
            throwsUnsupported(texts[i], () -> x.select());
            due(texts[i], places[i], x.place());
            due("tape", 0, x.count(0));
            due("found as it was", 1, x.count(5));
            due("weight as it was", 101, x.count(6));
        }
        due("8 steps", "", chosen(x, "a>a>a>a>a>a>a>a"));
    }

    private static void conditions() {
        part = "conditions";
        StyleCourt x = new StyleCourt();
        source(x, "<!e \"\"><!f \"f\"><a id=\"1\" x=\"\"/><a id=\"2\"> </a><b>&e;</b><b>&f;</b><b><!-- t --><!g \"g\"></b>"
                + "<b><c/></b><b>\n</b><b>&lt;</b>");
        due("has", "0 1", chosen(x, "*[id]"));
        due("has", "0", chosen(x, "*[x]"));
        due("is", "1", chosen(x, "*[id=\"2\"]"));
        due("is empty", "0", chosen(x, "*[x=\"\"]"));
        due("is not", "", chosen(x, "*[x=\" \"]"));
        due("both", "0", chosen(x, "*[x][id=\"1\"]"));
        due("not both", "", chosen(x, "*[x][id=\"2\"]"));
        due("first", "0 6", chosen(x, "*:first"));
        due("last", "6 8", chosen(x, "*:last"));
        due("nth", "2", chosen(x, "*:nth(3)"));
        due("nth", "0 6", chosen(x, "*:nth(0000001)"));
        due("nth 0", "", chosen(x, "*:nth(0)"));
        due("nth far off", "", chosen(x, "*:nth(9999999)"));
        due("empty", "0 2 4 6", chosen(x, "*:empty"));
        due("not", "0 1 6", chosen(x, "*:not(b)"));
        due("not itself", "", chosen(x, "a:not(a)"));
        due("not two", "6", chosen(x, "*:not(b):not(a)"));
        due("a longer name", "", chosen(x, "aa"));
    }

    private static void links() {
        part = "links";
        StyleCourt x = new StyleCourt();
        source(x, "<a><b><c/>t<d/></b><b/><a><c/><b><d/></b></a></a><a/><b/>");
        // 0 a, 1 b, 2 c, 3 d, 4 b, 5 a, 6 c, 7 b, 8 d, 9 a, 10 b
        due("directly in", "1 4 7", chosen(x, "a > b"));
        due("however deep", "1 4 7", chosen(x, "a / b"));
        due("however deep", "3 8", chosen(x, "a / d"));
        due("not directly in", "", chosen(x, "a > d"));
        due("directly before", "3", chosen(x, "c + d"));
        due("directly before", "7", chosen(x, "c + b"));
        due("directly before, in none", "10", chosen(x, "a + b"));
        due("directly before, in none", "9", chosen(x, "a + a"));
        due("not before the one before", "", chosen(x, "b + c"));
        due("three", "8", chosen(x, "a > a / d"));
        due("mixed", "8", chosen(x, "b + a / d"));
        due("mixed", "7", chosen(x, "b + a > c + b"));
        due("not in itself", "5", chosen(x, "a / a"));
        due("any deep", "2 3 6 7 8", chosen(x, "* > * / *"));
        due("a later one may do", "8", chosen(x, "a > a / *:last > d"));
        due("before what it is in", "6 7 8", chosen(x, "b + * / *"));
        due("four", "8", chosen(x, "* / * / * / *"));
    }

    // Promise 10

    private static void found() {
        part = "found";
        StyleCourt x = new StyleCourt();
        source(x, PAGE);
        due("how many", 3, select(x, "p"));
        due("first", 2, x.found(0));
        due("second", 5, x.found(1));
        due("third", 11, x.found(2));
        throwsIndex("no more", () -> x.found(3));
        throwsIndex("none ahead", () -> x.found(-1));
        throwsIndex("far off", () -> x.found(Integer.MAX_VALUE));
        style(x, "p{}");
        due("style leaves it", 11, x.found(2));
        put(x, "<");
        throwsUnsupported("broken", () -> x.source());
        due("broken source leaves it", 11, x.found(2));
        put(x, "p[");
        throwsUnsupported("broken", () -> x.select());
        due("broken select leaves it", 11, x.found(2));
        source(x, PAGE);
        throwsIndex("none behind a new source", () -> x.found(0));
        due("none behind a new source", 0, x.count(5));
        due("how many", 1, select(x, "ul"));
        throwsIndex("no more", () -> x.found(1));
        StyleCourt y = new StyleCourt();
        source(y, "<a/>".repeat(500));
        due("all", 500, select(y, "*"));
        due("the last", 499, y.found(499));
        throwsIndex("no more", () -> y.found(500));
    }

    // Promise 11

    private static void fits() {
        part = "fits";
        StyleCourt x = new StyleCourt();
        source(x, PAGE);
        style(x, "p, ul > li { a: 1; } *:empty { }");
        int[][] due = {{2, 5, 11}, {7, 8, 10}, {4, 5, 10, 12}};
        for (int s = 0; s < due.length; s++) {
            for (int e = 0; e < 13; e++) {
                int fits = 0;
                for (int one : due[s]) {
                    fits = one == e ? 1 : fits;
                }
                due("selector " + s + " element " + e, fits, x.fits(s, e));
            }
        }
        throwsArgument("no such selector", () -> x.fits(3, 0));
        throwsArgument("no such selector", () -> x.fits(-1, 0));
        throwsArgument("no such element", () -> x.fits(0, 13));
        throwsArgument("no such element", () -> x.fits(0, -1));
    }

    // Promise 12

    private static void element() {
        part = "element";
        StyleCourt x = new StyleCourt();
        source(x, "x<a i=\"\" j=\"1\" ><b/><!-- --><b>t</b >\n<c><d/></c></a><a></a>");
        long[][] due = {
            {1, -1, -1, 3, 0, 2, 0, 1, 53},
            {1, 0, -1, 0, 1, 0, 1, 16, 20},
            {2, 0, 1, 0, 1, 0, 0, 28, 37},
            {3, 0, 2, 1, 1, 0, 0, 38, 49},
            {1, 3, -1, 0, 2, 0, 1, 41, 45},
            {2, -1, 0, 0, 0, 0, 1, 53, 60},
        };
        due("elements", due.length, x.count(4));
        for (int e = 0; e < due.length; e++) {
            for (int what = 0; what < due[e].length; what++) {
                due("element " + e + " what " + what, due[e][what], x.element(e, what));
            }
        }
        throwsArgument("no such element", () -> x.element(6, 0));
        throwsArgument("no such element", () -> x.element(-1, 0));
        throwsArgument("no such question", () -> x.element(0, 9));
        throwsArgument("no such question", () -> x.element(0, -1));
    }

    // Promise 13

    private static void tell() {
        part = "tell";
        StyleCourt x = new StyleCourt();
        source(x, "top<!e \"\"><!f \"f g\"><abc id=\"&lt;<\" x = \"\">A&lt;<b>&f;<c>&amp;</c>\n<!-- no --></b>&e;<!g \"no\">&f;.</abc><d/>");
        due("name", 3, x.tell(0, 0));
        due("name", "abc", out(x));
        due("text", 11, x.tell(0, 1));
        due("text", "A<f g&\nf g.", out(x));
        due("text", 5, x.tell(1, 1));
        due("text", "f g&\n", out(x));
        due("text", 1, x.tell(2, 1));
        due("text", "&", out(x));
        due("no text", 0, x.tell(3, 1));
        due("no text", "", out(x));
        due("field name", 2, x.tell(0, 2));
        due("field name", "id", out(x));
        due("field string", 5, x.tell(0, 3));
        due("field string", "&lt;<", out(x));
        due("field name", 1, x.tell(0, 4));
        due("field name", "x", out(x));
        due("field string", 0, x.tell(0, 5));
        due("field string", "", out(x));
        x.tell(0, 0);
        throwsArgument("no such field", () -> x.tell(0, 6));
        throwsArgument("no such field", () -> x.tell(0, 7));
        throwsArgument("no such field", () -> x.tell(3, 2));
        throwsArgument("no such field", () -> x.tell(0, Integer.MAX_VALUE));
        throwsArgument("no such part", () -> x.tell(0, -1));
        throwsArgument("no such part", () -> x.tell(0, Integer.MIN_VALUE));
        throwsArgument("no such element", () -> x.tell(4, 0));
        throwsArgument("no such element", () -> x.tell(-1, 0));
        due("out as it was", "abc", out(x));
    }

    private static void tellTooMuch() {
        part = "tell too much";
        StyleCourt x = new StyleCourt();
        source(x, "<!k \"" + "0123456789abcdef".repeat(64) + "\"><a><b>" + "&k;".repeat(16) + "</b><c>x</c></a>");
        due("just room enough", 16384, x.tell(1, 1));
        due("all of it", 16384, x.count(1));
        due("its end", 0x3839616263646566L, x.word(16376));
        due("its end", 0x66L << 56, x.word(16383));
        throwsIndex("behind its end", () -> x.word(16384));
        x.tell(2, 1);
        throwsIndex("one too much", () -> x.tell(0, 1));
        due("out as it was", "x", out(x));
        source(x, "<!k \"" + "x".repeat(2000) + "\"><a>" + "&k;".repeat(500) + "</a>");
        throwsIndex("far too much", () -> x.tell(0, 1));
        due("out as it was", "x", out(x));
    }

    // Promise 14

    private static void word() {
        part = "word";
        StyleCourt x = new StyleCourt();
        source(x, "<a>123456789</a>");
        x.tell(0, 1);
        due("eight", 0x3132333435363738L, x.word(0));
        due("eight", 0x3233343536373839L, x.word(1));
        due("seven", 0x3334353637383900L, x.word(2));
        due("one", 0x3900000000000000L, x.word(8));
        throwsIndex("none", () -> x.word(9));
        throwsIndex("none", () -> x.word(-1));
        throwsIndex("none", () -> x.word(Integer.MAX_VALUE));
        x.tell(0, 0);
        due("one, and nothing of what was out before", 0x6100000000000000L, x.word(0));
        throwsIndex("none", () -> x.word(1));
    }

    // Promise 15

    private static void count() {
        part = "count";
        StyleCourt x = new StyleCourt();
        source(x, PAGE);
        style(x, "* { a: 1; b: 2; } p, *:not(p) { } a > b[c] + *:first:nth(1) { a: 1; }"
                + "a:empty:empty:empty:empty > a / a / a / a / a / a / a[b=\"c\"] { a: 2; }");
        select(x, "ul / li:not(p)");
        x.tell(0, 0);
        x.feed(0, 0, 0, 0, 0);
        long[] due = {20, 3, 5, 4, 13, 4, 102};
        for (int what = 0; what < due.length; what++) {
            due("count " + what, due[what], x.count(what));
        }
        long[] weights = {0, 1, 100, 302, 508, -1};
        for (int s = 0; s < weights.length; s++) {
            due("weight of " + s, weights[s], x.count(10 + s));
        }
        due("the last that may be asked for", -1, x.count(129));
        for (int what : new int[] {-1, 7, 8, 9, 130, Integer.MIN_VALUE, Integer.MAX_VALUE}) {
            throwsArgument("count " + what, () -> x.count(what));
        }
        x.end(0);
        source(x, "");
        due("found none", 0, x.count(5));
        due("weight of the latest select", 102, x.count(6));
        style(x, "a{}".repeat(119) + "*{}");
        due("selector 118", 1, x.count(128));
        due("selector 119", 0, x.count(129));
    }

    // What the tests are made of

    private static void good(String text, int elements) {
        StyleCourt x = new StyleCourt();
        put(x, text);
        long got;
        try {
            got = x.source();
        } catch (UnsupportedOperationException e) {
            got = -1000 - x.place();
        }
        due(text, elements, got);
        due(text + ": place", -1, x.place());
        due(text + ": tape", 0, x.count(0));
    }

    private static void broken(String text, int place) {
        StyleCourt x = new StyleCourt();
        put(x, text);
        throwsUnsupported(text, () -> x.source());
        due(text + ": place", place, x.place());
        due(text + ": tape", 0, x.count(0));
        due(text + ": elements", 0, x.count(4));
    }

    private static void goodStyle(String text, int selectors, int told) {
        StyleCourt x = new StyleCourt();
        put(x, text);
        long got;
        try {
            got = x.style();
        } catch (UnsupportedOperationException e) {
            got = -1000 - x.place();
        }
        due(text, selectors, got);
        due(text + ": told", told, x.count(3));
        due(text + ": place", -1, x.place());
        due(text + ": tape", 0, x.count(0));
    }

    private static void brokenStyle(String text, int place) {
        StyleCourt x = new StyleCourt();
        put(x, text);
        throwsUnsupported(text, () -> x.style());
        due(text + ": place", place, x.place());
        due(text + ": tape", 0, x.count(0));
        due(text + ": selectors", 0, x.count(2));
    }

    private static void put(StyleCourt x, String text) {
        byte[] bytes = text.getBytes(StandardCharsets.ISO_8859_1);
        int[] row = new int[5];
        int start = x.count(0);
        for (int from = 0; from < bytes.length; from += 20) {
            for (int k = 0; k < 20; k++) {
                int b = from + k < bytes.length ? bytes[from + k] & 255 : 0;
                row[k / 4] = row[k / 4] << 8 | b;
            }
            x.feed(row[0], row[1], row[2], row[3], row[4]);
        }
        x.end(start + bytes.length);
    }

    private static int source(StyleCourt x, String text) {
        put(x, text);
        return x.source();
    }

    private static int style(StyleCourt x, String text) {
        put(x, text);
        return x.style();
    }

    private static int select(StyleCourt x, String text) {
        put(x, text);
        return x.select();
    }

    private static String chosen(StyleCourt x, String text) {
        int n = select(x, text);
        StringBuilder list = new StringBuilder();
        for (int i = 0; i < n; i++) {
            list.append(i == 0 ? "" : " ").append(x.found(i));
        }
        return list.toString();
    }

    private static String value(StyleCourt x, int e, String name) {
        put(x, name);
        int kind = x.property(e);
        return kind + " " + out(x);
    }

    private static int by(StyleCourt x, int e, String name) {
        put(x, name);
        return x.by(e);
    }

    private static String name(StyleCourt x, int e) {
        x.tell(e, 0);
        return out(x);
    }

    private static String out(StyleCourt x) {
        StringBuilder text = new StringBuilder();
        for (int i = 0; i < x.count(1); i++) {
            text.append((char) (x.word(i) >>> 56));
        }
        return text.toString();
    }

    private static void due(String what, Object due, Object got) {
        if (!due.equals(got)) {
            wrong++;
            System.out.println(part + ": " + shown(what) + " answered " + got + ", due is " + due);
        }
    }

    private static void due(String what, long due, long got) {
        due(what, Long.valueOf(due), Long.valueOf(got));
    }

    private static String shown(String what) {
        return what.length() <= 100 ? what : what.substring(0, 100) + "..";
    }

    private static void throwsArgument(String what, Call call) {
        due(what, "IllegalArgumentException", thrownBy(call));
    }

    private static void throwsIndex(String what, Call call) {
        due(what, "IndexOutOfBoundsException", thrownBy(call));
    }

    private static void throwsUnsupported(String what, Call call) {
        due(what, "UnsupportedOperationException", thrownBy(call));
    }

    private static String thrownBy(Call call) {
        try {
            return Long.toString(call.answer());
        } catch (RuntimeException e) {
            return e.getClass().getSimpleName();
        }
    }
}
