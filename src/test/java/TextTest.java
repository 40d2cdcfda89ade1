/** Promises 1 to 4: a new object, feed, read with its faults, place. */
public final class TextTest {
    private static final Check CHECK = new Check();

    public static void main(String[] args) {
        newObject();
        feeding();
        grammar();
        noToken();
        cannotStand();
        namedTwice();
        noVariable();
        tooMany();
        tooManyOpen();
        callsAtTheEnd();
        firstMet();
        faultsChangeNothing();
        CHECK.finish();
    }

    private static void newObject() {
        TailTrimmer x = new TailTrimmer();
        CHECK.due("new place", x.place(), -1);
        CHECK.due("new order", x.order(0), -1);
        CHECK.due("new function 0", x.function(0, 0, 0), -1);
        CHECK.due("new function 1", x.function(1, 0, 0), -1);
        CHECK.due("new calls", x.calls(0, 0, 0), -1);
        CHECK.due("new write", x.write(0, 0), -1);
        CHECK.due("new octet", x.octet(0), -1);
        CHECK.due("new code", x.code(0, 0, 0, 0), -1);
        CHECK.due("new run", x.run(0, 0, 10, 10), -1);
        CHECK.due("new trim", x.trim(7), 0);
        for (int what = 0; what < 4; what++) {
            CHECK.due("new told " + what, x.told(what), 0);
        }
        CHECK.due("new putAt", x.putAt(0), 0);
        CHECK.due("new budget", x.budget(20), 20);
        for (int i = 0; i < 6; i++) {
            CHECK.due("new argument " + i, x.argument(i, 1), 0);
        }
        CHECK.due("new text is empty", x.feed(46, 1), 1);
        CHECK.due("an empty text has no functions", new TailTrimmer().read(), 0);
    }

    private static void feeding() {
        TailTrimmer x = new TailTrimmer();
        CHECK.due("feed -1", x.feed(1, -1), -2);
        CHECK.due("feed 9", x.feed(1, 9), -2);
        CHECK.due("feed least", x.feed(1, Integer.MIN_VALUE), -2);
        CHECK.due("feed most", x.feed(1, Integer.MAX_VALUE), -2);
        for (int i = 1; i <= 374; i++) {
            CHECK.due("feed " + i, x.feed(0x2020202020202020L, 8), 8 * i);
        }
        CHECK.due("feed to 2996", x.feed(-1, 4), 2996);
        CHECK.due("no room for 8", x.feed(0, 8), -4);
        CHECK.due("no room for 5", x.feed(0, 5), -4);
        CHECK.due("a wrong n before no room", x.feed(0, 9), -2);
        CHECK.due("room for 4", x.feed(0, 4), 3000);
        CHECK.due("no room for 1", x.feed(0, 1), -4);
        CHECK.due("read of a full text", x.read(), -11);
        CHECK.due("place in a full text", x.place(), 2992);
        CHECK.due("feed 0", x.feed(77, 0), 0);
        CHECK.due("read of an emptied text", x.read(), 0);
        // Of "XXdef f(" the lowest six bytes: the highest come first, what is above them is not fed.
        CHECK.due("feed 6", x.feed(0x5858646566206628L, 6), 6);
        CHECK.due("feed )=1.", x.feed(0x293d312eL, 4), 10);
        CHECK.due("the text was def f()=1.", x.read(), 1);
        CHECK.due("the text stays", x.feed(0x20, 1), 11);
        CHECK.due("and is read again", x.read(), 1);
        TailTrimmer full = new TailTrimmer();
        Check.lay(full, " ".repeat(2990) + "def f()=1.");
        CHECK.due("a text of 3000 bytes", full.read(), 1);
    }

    private static void good(String text, int functions) {
        TailTrimmer x = new TailTrimmer();
        Check.lay(x, text);
        CHECK.due("read of <" + text + ">", x.read(), functions);
        CHECK.due("place of <" + text + ">", x.place(), -1);
    }

    private static void bad(String text, int fault, int place) {
        TailTrimmer x = new TailTrimmer();
        Check.lay(x, text);
        CHECK.due("read of <" + text + ">", x.read(), -10 - fault);
        CHECK.due("place of <" + text + ">", x.place(), place);
        CHECK.due("functions of <" + text + ">", x.function(0, 0, 0), -1);
    }

    private static void reads(String text, String written) {
        CHECK.due("<" + text + ">", Check.written(Check.reading(text), 0, 0), written);
    }

    private static void grammar() {
        good("", 0);
        good(" \t\r\n ", 0);
        good("def f()=1.def g ( a , b1c2d3e4 ) = b1c2d3e4 . ", 2);
        good("def ifx(defs)=if defs then defs else 1.", 1);
        good("def f(f)=f(f).", 1);
        reads("def f(a,b)=a-b-1*2+-b%3.", "(((v0-v1)-(1*2))+((-v1)%3))");
        reads("def f(a,b)=a/b*a%b<a+b.", "((((v0/v1)*v0)%v1)<(v0+v1))");
        reads("def f(a)=a+1==a*2.", "((v0+1)==(v0*2))");
        reads("def f(a)=a-1==0;2.", "(((v0-1)==0);2)");
        reads("def f(a)=1;2;a.", "(1;(2;v0))");
        reads("def f(a)=(1;2);a.", "((1;2);v0)");
        reads("def f(a)=let b=a;1 in b;2.", "(let v1=(v0;1) in (v1;2))");
        reads("def f(a)=if a;1 then 2;3 else 4;5.", "(if (v0;1) then (2;3) else (4;5))");
        reads("def f(a)=a;if a then let b=2 in b else a;b().def b()=1.",
            "(v0;(if v0 then (let v1=2 in v1) else (v0;b())))");
        reads("def f(a)=let a=let a=a+1 in a*2 in let b=a in a+b.",
            "(let v1=(let v2=(v0+1) in (v2*2)) in (let v3=v1 in (v1+v3)))");
        reads("def f(a)=(let x=1 in x)+(let x=2 in x)-a.", "(((let v1=1 in v1)+(let v2=2 in v2))-v0)");
        reads("def f()=--1-(-2).", "((-(-1))-(-2))");
        reads("def f(a)=put(a;f(put(1)))*0000000012.", "(put((v0;f(put(1))))*12)");
        reads("def f(x)=if 1then 2else x.", "(if 1 then 2 else v0)");
    }

    private static void noToken() {
        bad("$", 1, 0);
        bad("  \n A", 1, 4);
        bad("def abcdefghi()=1.", 1, 4);
        good("def abcdefgh()=1.", 1);
        bad("def f()=2147483648.", 1, 8);
        good("def f()=2147483647.", 1);
        bad("def f()=00000000001.", 1, 8);
        good("def f()=0000000001.", 1);
        bad("def f()=99999999999999999999.", 1, 8);
        bad("def f()=1\u00ff.", 1, 9);
        bad("def f()=1\u0000.", 1, 9);
        bad("def f()=1>2.", 1, 9);
        bad("def definite1()=1.", 1, 4);
    }

    private static void cannotStand() {
        bad("f", 2, 0);
        bad(".", 2, 0);
        bad("def", 2, 3);
        bad("def 1", 2, 4);
        bad("def let()=1.", 2, 4);
        bad("def f=1.", 2, 5);
        bad("def f(", 2, 6);
        bad("def f(,)=1.", 2, 6);
        bad("def f(put)=1.", 2, 6);
        bad("def f(a b)=1.", 2, 8);
        bad("def f(a,)=1.", 2, 8);
        bad("def f(a;b)=1.", 2, 7);
        bad("def f()==1.", 2, 7);
        bad("def f()=.", 2, 8);
        bad("def f()=1", 2, 9);
        bad("def f()=1 \n", 2, 11);
        bad("def f()=1<2<3.", 2, 11);
        bad("def f()=1<2==3.", 2, 11);
        bad("def f()=1<=3.", 2, 10);
        bad("def f()=1+if 1 then 2 else 3.", 2, 10);
        bad("def f()=-let x=1 in x.", 2, 9);
        bad("def f()=().", 2, 9);
        bad("def f()=(1.", 2, 10);
        bad("def f()=put 1.", 2, 12);
        bad("def f()=put().", 2, 12);
        bad("def f()=put(1,2).", 2, 13);
        bad("def f()=1;.", 2, 10);
        bad("def f(a)=f(1,).", 2, 13);
        bad("def f(a)=f(,1).", 2, 11);
        bad("def f(a)=f(1.", 2, 12);
        bad("def f()=let 1=2 in 3.", 2, 12);
        bad("def f()=let x 2 in 3.", 2, 14);
        bad("def f()=let x=2 3.", 2, 16);
        bad("def f()=if 1 else 2.", 2, 13);
        bad("def f()=if 1 then 2.", 2, 19);
        bad("def f()=1 2.", 2, 10);
        bad("def f()=then.", 2, 8);
        bad("def f()=1.2.", 2, 10);
        bad("def f()=1+*2.", 2, 10);
        bad("def f()=1+.", 2, 10);
    }

    private static void namedTwice() {
        bad("def f()=1.def f()=2.", 3, 14);
        bad("def f(a,a)=1.", 3, 8);
        bad("def f(a,b,a)=1.", 3, 10);
        good("def f(a)=1.def g(a)=let a=1 in let a=2 in a.", 2);
    }

    private static void noVariable() {
        bad("def f()=x.", 4, 8);
        bad("def f()=let x=x in 1.", 4, 14);
        bad("def f()=(let x=1 in x)+x.", 4, 23);
        bad("def f(a)=1.def g()=a.", 4, 19);
        bad("def f()=f.", 4, 8);
        bad("def f()=x y.", 4, 8);
        good("def x(x)=x ( x ) .", 1);
    }

    private static String functions(int count) {
        StringBuilder text = new StringBuilder();
        for (int i = 0; i < count; i++) {
            text.append("def f").append((char) ('a' + i)).append("()=1.");
        }
        return text.toString();
    }

    private static void tooMany() {
        good(functions(24), 24);
        bad(functions(25), 5, 24 * 11 + 4);
        bad(functions(24) + "def fa()=1.", 3, 24 * 11 + 4);
        bad(functions(24) + "def 1", 2, 24 * 11 + 4);
        good("def f(a,b,c,d,e,g)=a.", 1);
        bad("def f(a,b,c,d,e,g,h)=a.", 5, 18);
        bad("def f(a,b,c,d,e,g,a)=a.", 3, 18);
        good("def f(a)=" + "a+".repeat(199) + "-a.", 1);
        bad("def f(a)=" + "a+".repeat(200) + "a.", 5, 9 + 401);
        bad("def f(a)=" + "a+".repeat(200) + "a\n .", 5, 9 + 403);
        bad("def f(a)=" + "a+".repeat(200) + "a", 2, 9 + 401);
        bad("def f(a)=" + "a+".repeat(600) + "b.", 4, 9 + 1200);
        bad("def f(a)=" + "a;".repeat(1490) + "a.", 5, 9 + 2981);
        good("def f(a)=" + "a;".repeat(199) + "-a.", 1);
        good("def f(a)=" + "(let x=1 in x)+".repeat(39) + "(let x=1 in x).", 1);
        bad("def f(a)=" + "(let x=1 in x)+".repeat(40) + "(let x=1 in x).", 5, 9 + 600 + 5);
        bad("def f(a)=" + "(let x=1 in x)+".repeat(40) + "(let 1=1 in x).", 2, 9 + 600 + 5);
        good("def f(a)=" + "(let x=1 in x)+".repeat(40) + "1.def g(a)=" + "(let x=1 in x)+".repeat(40) + "1.", 2);
    }

    private static void nested(String before, String middle, String behind) {
        String head = "def f(x)=";
        good(head + before.repeat(30) + middle + behind.repeat(30) + ".", 1);
        int inside = before.indexOf('(') > 0 ? before.indexOf('(') : 0;
        bad(head + before.repeat(31) + middle + behind.repeat(31) + ".", 5, 9 + 30 * before.length() + inside);
    }

    private static void tooManyOpen() {
        nested("(", "1", ")");
        nested("put(", "1", ")");
        nested("f(", "1", ")");
        nested("-", "1", "");
        nested("let y=x in ", "1", "");
        nested("if x then 1 else ", "1", "");
        nested("if ", "1", " then 2 else 3");
        nested("let y=", "1", " in y");
        String open = "(".repeat(29);
        String close = ")".repeat(29);
        good("def f()=" + open + "f()" + close + ".", 1);
        bad("def f()=(" + open + "f()" + close + ").", 5, 8 + 30 + 1);
        bad("def f()=(" + open + "put 1", 2, 8 + 30 + 4);
        good("def f()=" + open + "-1-1-(1)-(1)*-1+put(1);-1;(1)" + close + ".", 1);
        good("def f(x)=" + open + "let y=1 in y" + close + ".", 1);
        bad("def f(x)=" + open + "let y=(1) in y" + close + ".", 5, 9 + 29 + 6);
        bad("def f(x)=" + open + "-(1)" + close + ".", 5, 9 + 29 + 1);
        bad("def f(x)=" + open + "if x then -1 else 1" + close + ".", 5, 9 + 29 + 10);
        good("def f(x)=" + "(x);-x;".repeat(60) + "let y=(x) in (y).", 1);
        bad("def f(x)=" + "(".repeat(31) + "$", 5, 9 + 30);
    }

    private static void callsAtTheEnd() {
        bad("def f()=g().", 6, 8);
        bad("def f(a)=f().", 7, 9);
        bad("def f(a)=f(1,2).", 7, 9);
        bad("def f()=f(1).", 7, 8);
        bad("def f(a)=f(g()).", 6, 11);
        bad("def f(a)=f(g(),1).", 7, 9);
        bad("def f(a)=g(f()).", 6, 9);
        bad("def f(a)=g(1).def g()=h().", 7, 9);
        bad("def f()=g(). x", 2, 13);
        bad("def f()=f(1,2,3,4,5,6,7,8).", 7, 8);
        good("def f()=g(1).def g(a)=f().", 2);
    }

    private static void firstMet() {
        // Whether a ( is behind the NAME is known only when the next token is there.
        bad("def f()=x$.", 1, 9);
        bad("def f()=x ABC", 1, 10);
        bad("def f()=1.def f$", 3, 14);
        bad("def f(a,a$", 3, 8);
        bad("def f()=1)$", 2, 9);
        bad("def f(a)=" + "a+".repeat(200) + "a.$", 5, 9 + 401);
        bad("def f()=1. $ def f()=2.", 1, 11);
    }

    private static void faultsChangeNothing() {
        TailTrimmer x = Check.reading("def f(a)=a+1.def g(b)=f(b).");
        CHECK.due("trim", x.trim(1), 1);
        CHECK.due("run", x.run(1, 1, 100, 100), 1);
        Check.lay(x, "def h()=1.def h()=2.");
        CHECK.due("read of a faulty text", x.read(), -13);
        CHECK.due("its place", x.place(), 14);
        CHECK.due("the place stays", x.place(), 14);
        CHECK.due("functions stay", Check.written(x, 0, 1), "f(v0)");
        CHECK.due("the output stays", Check.written(x, 1, 1), "(let v1=v0 in (v1+1))");
        CHECK.due("the order stays", x.order(1), 1);
        CHECK.due("trim works on what stays", x.trim(0), 0);
        CHECK.due("output of mode 0", Check.written(x, 1, 1), "f(v0)");
        x.trim(1);
        Check.lay(x, "def h()=7.");
        CHECK.due("a good text", x.read(), 1);
        CHECK.due("no place", x.place(), -1);
        CHECK.due("in place of those that were", x.function(0, 1, 0), -1);
        CHECK.due("and in the output", x.function(1, 1, 0), -1);
        CHECK.due("the new function", Check.written(x, 1, 0), "7");
        CHECK.due("the output is of mode 0", x.function(1, 0, 7), 0);
        Check.lay(x, "");
        CHECK.due("no functions", x.read(), 0);
        CHECK.due("none is left", x.function(0, 0, 0), -1);
        CHECK.due("none in the output", x.function(1, 0, 0), -1);
    }
}
