/** Promises 3 and 4: the faults, each with a text just within and just beyond it, and what read() and place() tell. */
public final class FaultEdgeTest {
    private static final String LET = "(let x=1 in x)+";
    private static final int MOST_OPEN = 30;

    public static void main(String[] args) {
        look(new Edges()).finish();
    }

    static Edges look(Edges e) {
        return e.all(
            FaultEdgeTest::firstMet, FaultEdgeTest::noToken, FaultEdgeTest::cannotStand, FaultEdgeTest::namedTwice,
            FaultEdgeTest::noVariable, FaultEdgeTest::tooManyFunctions, FaultEdgeTest::tooManyParameters,
            FaultEdgeTest::tooManyNodes, FaultEdgeTest::tooManyLets, FaultEdgeTest::tooManyOpen, FaultEdgeTest::howLongOpen,
            FaultEdgeTest::callsAtTheEnd, FaultEdgeTest::noFunction, FaultEdgeTest::otherParameters, FaultEdgeTest::numbered,
            FaultEdgeTest::readAnew, FaultEdgeTest::faultNumbers, FaultEdgeTest::places);
    }

    private static void firstMet(Edges e) {
        e.sentence(3, "FAULTS, the first met in reading, token by token as wanted (place, number):");
        e.reads(1, "def f(a)=a.");
        e.faulty(1, "", "$ def f()=x.");
        e.faulty(1, "def f()=1. ", "$ def f()=2.");
        e.faulty(2, "def f()=", ")$");
        e.faulty(2, "def f()=1", ")$");
        e.faulty(3, "def f()=1.def ", "f$");
        e.faulty(3, "def f()=1.def ", "f(a,a)=2.");
        e.faulty(3, "def f(a,", "a$");
        e.faulty(4, "def f()=", "x.$");
        e.faulty(4, "def f()=", "x y.");
        e.faulty(5, "def f(a)=" + "a+".repeat(200) + "a", ".$");
        e.faulty(5, "def f()=" + "(".repeat(30), "($");
        // Whether a ( is behind a NAME is known only when the next token has been looked for.
        e.faulty(1, "def f()=x", "$.");
        e.faulty(1, "def f()=x ", "abcdefghi.");
        e.faulty(2, "def f()=g().", "x");
        e.faulty(4, "def f()=g().def h()=", "x.");
    }

    private static void noToken(Edges e) {
        e.sentence(3, "1 no token begins there (a NAME or NUMBER that is too long or large, too).");
        e.reads(1, "def abcdefgh()=2147483647.");
        e.faulty(1, "def ", "abcdefghi()=2147483647.");
        e.faulty(1, "def abcdefgh()=", "2147483648.");
        e.faulty(1, "def abcdefgh()=", "02147483647.");
        e.faulty(1, "def abcdefgh()=1", ">2.");
        e.faulty(1, "def abcdefgh()=1.", "\u0000");
        e.faulty(1, "def abcdefgh()=1.\n", "\u00ff");
        e.faulty(1, "", "D");
    }

    private static void cannotStand(Edges e) {
        e.sentence(3, "2 it cannot stand there.");
        e.reads(1, "def f()=1.");
        e.faulty(2, "", "1def f()=1.");
        e.faulty(2, "def f()=1 ", "1.");
        e.faulty(2, "def f()=1.", ";");
        e.faulty(2, "def f()=", ".");
        // At the text's end nothing stands: its place is behind all bytes.
        e.faulty(2, "def", "");
        e.faulty(2, "def f", "");
        e.faulty(2, "def f(", "");
        e.faulty(2, "def f()", "");
        e.faulty(2, "def f()=", "");
        e.faulty(2, "def f()=1", "");
        e.faulty(2, "def f()=1 \n\t", "");
        String full = "def f()=" + "1+".repeat(100) + " ".repeat(2791);
        e.reads(1, full.substring(0, 2998) + "1.");
        e.faulty(2, full + "1", "");
    }

    private static void namedTwice(Edges e) {
        e.sentence(3, "3 at a NAME behind def that is a function already, or a parameter's that this function has already.");
        e.reads(2, "def f()=1.def g()=2.");
        e.faulty(3, "def f()=1.def ", "f()=2.");
        e.faulty(3, "def f()=1.def g()=2.def h()=3.def ", "g(a)=2.");
        e.reads(1, "def f(a,b,c)=1.");
        e.faulty(3, "def f(a,", "a)=1.");
        e.faulty(3, "def f(a,b,c,", "b)=1.");
        e.faulty(3, "def f(a,b,c,d,e,", "a)=1.");
        e.reads(2, "def f(a)=1.def g(a)=2.");
        e.reads(1, "def f(f)=1.");
        e.reads(2, "def f()=1.def g(f,g)=2.");
        e.reads(1, "def f(a)=let a=1 in let a=2 in let f=3 in a.");
        e.reads(2, "def f()=g().def g()=1.");
    }

    private static void noVariable(Edges e) {
        e.sentence(3, "4 at a NAME without ( behind it that is no variable there.");
        e.reads(1, "def f(a)=a.");
        e.faulty(4, "def f(a)=", "b.");
        e.faulty(4, "def f()=", "f.");
        e.faulty(4, "def f()=", "x");
        e.faulty(2, "def f(x)=x", "");
        e.reads(1, "def f()=f().");
        e.reads(1, "def f()=f\n(\n).");
        e.reads(1, "def f()=let x=1 in x.");
        e.faulty(4, "def f()=let x=", "x in 1.");
        e.reads(1, "def f()=(let x=1 in x)+1.");
        e.faulty(4, "def f()=(let x=1 in x)+", "x.");
        e.reads(1, "def f()=let x=let x=1 in x in x.");
        e.faulty(4, "def f()=let x=(let y=1 in y)+", "y in x.");
        e.reads(1, "def f(x)=(let x=1 in x)+x.");
        e.reads(2, "def f(a)=a.def g(a)=a.");
        e.faulty(4, "def f(a)=a.def g()=", "a.");
        e.faulty(4, "def f()=let x=1 in 1.def g()=", "x.");
        e.reads(1, "def f()=let x=1 in let y=x in if x then y else x+y.");
        e.faulty(4, "def f(abcdefg1)=", "abcdefg2.");
        e.faulty(4, "def f(aa)=", "a.");
    }

    private static String functions(int count) {
        StringBuilder text = new StringBuilder();
        for (int i = 0; i < count; i++) {
            text.append("def f").append((char) ('a' + i)).append("()=1.");
        }
        return text.toString();
    }

    private static void tooManyFunctions(Edges e) {
        e.sentence(3, "5 more than 24 functions (at the NAME)");
        e.reads(23, functions(23));
        e.reads(24, functions(24));
        e.faulty(5, functions(24) + "def ", "g()=1.");
        e.faulty(5, functions(24) + "def\n ", "g");
        e.faulty(2, functions(24) + "def ", "1()=1.");
        e.faulty(2, functions(24) + "def ", "");
        e.faulty(2, functions(24), "fa");
    }

    private static void tooManyParameters(Edges e) {
        e.sentence(3, "6 parameters (at the NAME; both behind 3)");
        e.reads(1, "def f(a,b,c,d,e,g)=g.");
        e.faulty(5, "def f(a,b,c,d,e,g,", "h)=g.");
        e.faulty(5, "def f(a,b,c,d,e,g, ", "h");
        e.faulty(2, "def f(a,b,c,d,e,g,", "1)=g.");
        e.faulty(2, "def f(a,b,c,d,e,g,", ")=g.");
        e.faulty(3, "def f(a,b,c,d,e,g,", "a)=g.");
        e.faulty(3, "def f(a,b,c,d,e,g,", "g)=g.");
        e.faulty(3, functions(24) + "def ", "fa()=1.");
        e.faulty(3, functions(24) + "def ", "fx()=1.");
        e.reads(2, "def f(a,b,c,d,e,g)=g.def h(a,b,c,d,e,g)=g.");
    }

    private static void nodes(Edges e, String most, String oneMore) {
        String text = "def f(a)=" + most + ".";
        e.reads(1, text);
        e.within("SIZE of <" + most + ">", Check.reading(text).function(0, 0, 0), 400);
        e.faulty(5, "def f(a)=" + oneMore, ".");
    }

    private static void tooManyNodes(Edges e) {
        e.sentence(3, "400 nodes in an exp of a function (at its . )");
        String sum = "a+".repeat(195) + "a";
        nodes(e, "a+".repeat(199) + "-a", "a+".repeat(200) + "a");
        nodes(e, "a;".repeat(199) + "-a", "a;".repeat(200) + "a");
        nodes(e, "-(" + "a-".repeat(199) + "a)", "--(" + "a-".repeat(199) + "a)");
        nodes(e, "put(1);3<" + sum + "+a*a", "put(1);3<" + sum + "+a*-a");
        nodes(e, "if a then a else let x=a in f(-a)+" + sum, "if a then -a else let x=a in f(-a)+" + sum);
        nodes(e, "f(" + "a-".repeat(199) + "a)", "f(" + "a-".repeat(199) + "-a)");
        e.faulty(5, "def f(a)=" + "a+".repeat(200) + "a \n", ".");
        e.faulty(5, "def f(a)=" + "a;".repeat(1490) + "a", ".");
        e.faulty(2, "def f(a)=" + "a+".repeat(200) + "a", "");
        e.faulty(2, "def f(a)=" + "a+".repeat(200) + "a", ")");
        e.faulty(4, "def f(a)=" + "a+".repeat(600), "b.");
        e.faulty(4, "def f(a)=" + "a+".repeat(200), "b.");
        String most = "(a)=" + "a+".repeat(199) + "-a.";
        e.reads(3, "def f" + most + "def g" + most + "def h" + most);
        e.faulty(5, "def f" + most + "def g(a)=" + "a+".repeat(200) + "a", ".");
    }

    private static void tooManyLets(Edges e) {
        e.sentence(3, "40 lets in one (at the NAME)");
        e.reads(1, "def f()=" + LET.repeat(39) + "1.");
        e.reads(1, "def f()=" + LET.repeat(40) + "1.");
        e.faulty(5, "def f()=" + LET.repeat(40) + "(let ", "x=1 in x).");
        e.faulty(5, "def f()=" + LET.repeat(40) + "(let\n ", "y");
        e.faulty(2, "def f()=" + LET.repeat(40) + "(let ", "1=1 in x).");
        e.faulty(2, "def f()=" + LET.repeat(40) + "(let ", "");
        e.reads(2, "def f()=" + LET.repeat(40) + "1.def g()=" + LET.repeat(40) + "1.");
        String nested = "let x=1 in ".repeat(20);
        e.reads(1, "def f()=(" + nested + "x)+(" + nested + "x).");
        e.faulty(5, "def f()=(" + nested + "x)+(" + nested + "let ", "x=1 in x).");
        e.reads(1, "def f(a,b,c,d,e,g)=" + LET.repeat(40) + "g.");
    }

    /** What stands open is behind 29 others that are, and is the 30th; behind 30 others it is the 31st. */
    private static void opened(Edges e, String before, String opener, String behind) {
        String head = "def f(x)=";
        e.reads(1, head + "(".repeat(29) + before + opener + behind + ")".repeat(29) + ".");
        e.faulty(5, head + "(".repeat(30) + before, opener + behind + ")".repeat(30) + ".");
        e.faulty(5, head + "(".repeat(30) + before, opener + "$");
    }

    private static void tooManyOpen(Edges e) {
        e.sentence(3, "30 that are open at a ( within an exp, - before a unary, let, if (there, the 31st;");
        opened(e, "", "(", "1)");
        opened(e, "put", "(", "1)");
        opened(e, "f", "(", "x)");
        opened(e, "", "-", "1");
        opened(e, "", "let", " y=x in y");
        opened(e, "", "if", " x then 1 else 2");
        String[][] each = {{"(", "1", ")"}, {"put(", "1", ")"}, {"f(", "1", ")"}, {"-", "1", ""}, {"let y=x in ", "1", ""},
            {"let y=", "1", " in y"}, {"if ", "1", " then 2 else 3"}, {"if x then ", "1", " else 3"}, {"if x then 1 else ", "1", ""}};
        for (String[] one : each) {
            e.reads(1, "def f(x)=" + one[0].repeat(MOST_OPEN) + one[1] + one[2].repeat(MOST_OPEN) + ".");
            int at = Math.max(0, one[0].indexOf('('));
            e.faulty(5, "def f(x)=" + one[0].repeat(MOST_OPEN) + one[0].substring(0, at),
                one[0].substring(at) + one[1] + one[2].repeat(MOST_OPEN + 1) + ".");
        }
        // A ( of a call without arguments is a ( within an exp, too; one behind def is not.
        e.reads(1, "def f()=" + "(".repeat(29) + "f()" + ")".repeat(29) + ".");
        e.faulty(5, "def f()=" + "(".repeat(30) + "f", "()" + ")".repeat(30) + ".");
        e.reads(1, "def f(x)=" + "(".repeat(30) + "x" + ")".repeat(30) + ".");
        e.reads(1, "def f(x)=" + "(".repeat(30) + "x-x" + ")".repeat(30) + ".");
        // What cannot stand there is not opened.
        e.faulty(2, "def f(x)=" + "(".repeat(30) + "x+", "let y=1 in y");
        e.faulty(2, "def f(x)=" + "(".repeat(30) + "put ", "1");
        e.faulty(2, "def f(x)=" + "(".repeat(30) + "1", "(1)");
        e.reads(2, "def f(x)=" + "(".repeat(30) + "x" + ")".repeat(30) + ".def g(x)=" + "-".repeat(30) + "x.");
        // What a fault has left open is not open in the next text.
        for (String left : new String[] {"(", "-(", "f(", "let y=", "let y=x in (", "if ", "if x then ", "if x then 1 else ("}) {
            TailTrimmer x = new TailTrimmer();
            Check.lay(x, "def f(x)=" + left.repeat(15) + "1 1");
            e.beyond("read() of what <" + left + "> leaves open", x.read(), -12);
            Check.lay(x, "def f(x)=" + "(".repeat(30) + "x" + ")".repeat(30) + ".");
            e.within("read() of 30 behind it", x.read(), 1);
        }
    }

    private static void howLongOpen(Edges e) {
        e.sentence(3, "a ( till its ), the others till the unary, the last exp behind them has ended)");
        String head = "def f(x)=" + "(".repeat(29);
        String end = ")".repeat(29) + ".";
        e.reads(1, head + "(x)+(x)*put(x)-f(x);(x)" + end);
        e.faulty(5, head + "(x)+(", "(x))" + end);
        e.faulty(5, head + "put(x)+f(", "(x))" + end);
        e.reads(1, head + "-x-(x)*-x+-x" + end);
        e.reads(1, head + "-x*(x)" + end);
        e.faulty(5, head + "-", "(x)*x" + end);
        e.faulty(5, head + "-", "-x" + end);
        String less = "def f(x)=" + "(".repeat(28);
        String lessEnd = ")".repeat(28) + ".";
        e.reads(1, less + "(let y=x in y)+-(x)" + lessEnd);
        e.reads(1, less + "(if x then x else x)+-(x)" + lessEnd);
        e.faulty(5, less + "(let y=", "(x) in y)" + lessEnd);
        e.faulty(5, less + "(let y=x in ", "(y))" + lessEnd);
        e.faulty(5, less + "(let y=x in y;y+", "-y)" + lessEnd);
        e.faulty(5, less + "(if ", "(x) then x else x)" + lessEnd);
        e.faulty(5, less + "(if x then ", "(x) else x)" + lessEnd);
        e.faulty(5, less + "(if x then x else ", "(x))" + lessEnd);
        e.faulty(5, less + "(if x then x else x;", "-x)" + lessEnd);
        e.reads(1, "def f(x)=" + "(x);-x;f(x);put(x);".repeat(30) + "let y=(x) in (y).");
        e.reads(1, "def f(x)=" + "(if x then x else x)+(let y=x in y)-".repeat(35) + "x.");
    }

    private static void callsAtTheEnd(Edges e) {
        e.sentence(3, "At the text's end, by the NAMES of calls in the order of the text:");
        e.reads(2, "def f()=g(1).def g(a)=f().");
        e.faulty(6, "def f()=", "g(1).def g2(a)=f(1).");
        e.faulty(7, "def f()=", "g().def g(a)=h().");
        e.faulty(7, "def f(a)=", "f(g(),1).");
        e.faulty(6, "def f(a)=f(", "g(f())).");
        e.faulty(6, "def f(a)=f(1)+", "g(f()).");
        e.faulty(7, "def f(a)=f(", "f()+g()).");
        e.faulty(2, "def f()=g().", "g");
        e.faulty(1, "def f()=g().", "$");
        e.faulty(3, "def f()=g().def ", "f()=1.");
        e.faulty(4, "def f()=g().def h()=", "x.");
        e.faulty(5, "def f()=g()+" + "(".repeat(30), "(1.");
        // As many calls as a text can have: three bytes for each of them.
        String nest = "f(".repeat(30) + "x" + ")".repeat(30);
        String calls = (nest + ";").repeat(11) + nest;
        String text = "def f(x)=" + calls + ".def g(x)=" + calls + ".def h(x)=";
        String rest = (nest + ";").repeat(7);
        e.reads(3, text + rest + "f(x).");
        e.within("bytes of it", (text + rest + "f(x).").length() > 2850 ? 1 : 0, 1);
        e.faulty(6, text + rest, "k(x).");
        e.faulty(7, text + rest, "f().");
    }

    private static void noFunction(Edges e) {
        e.sentence(3, "6 it is no function;");
        e.reads(1, "def f()=f().");
        e.reads(2, "def f()=g().def g()=1.");
        e.faulty(6, "def f()=", "g().");
        e.faulty(6, "def f(a)=a+", "a().");
        e.faulty(6, "def f()=let g=1 in ", "g().");
        e.faulty(6, "def ff()=", "f().");
        e.faulty(6, "def abcdefg1()=", "abcdefg2().");
        e.faulty(6, "def f()=", "g(1,2,3,4,5,6,7).");
    }

    private static void otherParameters(Edges e) {
        e.sentence(3, "7 it has another number of parameters.");
        String[] given = {"", "1", "1,2", "1,2,3", "1,2,3,4", "1,2,3,4,5", "1,2,3,4,5,6", "1,2,3,4,5,6,7", "1,2,3,4,5,6,7,8"};
        String[] parameters = {"", "a", "a,b", "a,b,c", "a,b,c,d", "a,b,c,d,e", "a,b,c,d,e,g"};
        for (int has = 0; has <= 6; has++) {
            for (int told = 0; told <= 8; told++) {
                String before = "def f(" + parameters[has] + ")=1.def h()=2+";
                if (has == told) {
                    e.reads(2, before + "f(" + given[told] + ").");
                } else {
                    e.faulty(7, before, "f(" + given[told] + ").");
                }
            }
        }
        e.faulty(7, "def f(a)=", "f().");
    }

    private static void numbered(Edges e) {
        e.sentence(3, "Functions are numbered as they stand.");
        TailTrimmer x = Check.reading("def zz()=10.def b()=11.def a()=12.");
        for (int f = 0; f < 3; f++) {
            e.within("function " + f, Check.written(x, 0, f), Integer.toString(10 + f));
            e.within("function " + f + " of the output", Check.written(x, 1, f), Integer.toString(10 + f));
        }
        e.beyond("function 3", x.write(0, 3), -1);
        e.beyond("function -1", x.write(0, -1), -1);
        TailTrimmer most = Check.reading(functions(23) + "def last()=7.");
        e.within("function 23", Check.written(most, 0, 23), "7");
        e.beyond("function 24", most.write(0, 24), -1);
    }

    private static void readAnew(Edges e) {
        e.sentence(3, "THE TEXT is read (it stays): its functions in place of those that there were; the output is of mode 0: how many.");
        e.reads(0, "");
        e.reads(1, "def f()=1.");
        e.reads(24, functions(24));
        TailTrimmer x = Check.reading("def f(a)=a+1.def g()=f(1+2).");
        e.within("read() of the text that stays", x.read(), 2);
        e.within("feed(32, 1) behind it", x.feed(32, 1), 29);
        e.within("trim(7)", x.trim(7), 1);
        e.beyond("the output of mode 7", Check.written(x, 1, 1), "4");
        e.within("read() once more", x.read(), 2);
        e.within("the output of mode 0", Check.written(x, 1, 1), "f((1+2))");
        e.within("no TAIL", x.code(1, 1, 3, 0), 16);
        e.within("none is REPLACED in it", x.function(1, 1, 7), 0);
        Check.lay(x, "def h()=7.");
        e.within("read() of another text", x.read(), 1);
        e.within("its function", Check.written(x, 0, 0), "7");
        e.within("in the output, too", Check.written(x, 1, 0), "7");
        e.beyond("no second function", x.function(0, 1, 0), -1);
        e.beyond("nor in the output", x.function(1, 1, 0), -1);
        e.beyond("nor in the ORDER", x.order(1), -1);
        x.feed(0, 0);
        e.within("read() of no text", x.read(), 0);
        e.beyond("no function", x.function(0, 0, 0), -1);
        e.beyond("no function in the output", x.function(1, 0, 0), -1);
        TailTrimmer again = new TailTrimmer();
        Check.lay(again, functionsOfMostNodes(6));
        for (int i = 0; i < 20; i++) {
            e.within("read() of a long text, over and over", again.read(), 6);
        }
        e.within("SIZE of the last function", again.function(0, 5, 0), 400);
        e.within("run() of the last function", again.run(0, 5, 99, 999), 1);
        e.beyond("no function behind it", again.function(0, 6, 0), -1);
    }

    private static String functionsOfMostNodes(int count) {
        StringBuilder text = new StringBuilder();
        for (int i = 0; i < count; i++) {
            text.append("def f").append((char) ('a' + i)).append("(a)=").append("a+".repeat(199)).append("-a.");
        }
        return text.toString();
    }

    private static void faultNumbers(Edges e) {
        e.sentence(3, "-10 less the FAULT.");
        e.reads(1, "def f()=1.");
        String[] texts = {"$", "f", "def f(a,a)=1.", "def f()=x.", functions(25), "def f()=g().", "def f()=f(1)."};
        for (int fault = 1; fault <= 7; fault++) {
            TailTrimmer x = new TailTrimmer();
            Check.lay(x, texts[fault - 1]);
            e.beyond("read() with FAULT " + fault, x.read(), -10 - fault);
        }
    }

    private static void places(Edges e) {
        e.sentence(4, "The place of the fault of the latest read(); -1 if it had none, or before.");
        TailTrimmer x = new TailTrimmer();
        e.within("place() of a new object", x.place(), -1);
        x.feed('$', 1);
        e.within("place() before read()", x.place(), -1);
        x.read();
        e.beyond("place() of the first byte", x.place(), 0);
        e.beyond("place() once more", x.place(), 0);
        x.feed(0, 0);
        e.beyond("place() when the text is another one", x.place(), 0);
        Check.lay(x, "def f()=g().");
        x.read();
        e.beyond("place() of the latest", x.place(), 8);
        Check.lay(x, "def f()=1.");
        x.read();
        e.within("place() when there is none", x.place(), -1);
        x.feed('.', 1);
        x.read();
        e.beyond("place() of a fault again", x.place(), 10);
        Check.lay(x, "def $");
        x.read();
        e.beyond("place() of the latest, which is smaller", x.place(), 4);
        x.feed(0, 0);
        x.read();
        e.within("place() of an empty text", x.place(), -1);
        TailTrimmer full = new TailTrimmer();
        Check.lay(full, "def f()=" + " ".repeat(2992));
        full.read();
        e.beyond("place() at the end of a full text", full.place(), 3000);
    }
}
