/** Promises 5 and 6: the budget, the modes, and the limits of INLINE, FOLD and TAILS. */
public final class OutputEdgeTest {
    /** SIZE 101, no parameters: a call of it grows by 100. */
    private static final String HUNDRED = "def f()=" + "1+".repeat(50) + "1.";
    private static final int INLINE = 1;
    private static final int FOLD = 2;
    private static final int TAILS = 4;

    public static void main(String[] args) {
        look(new Edges()).finish();
    }

    static Edges look(Edges e) {
        return e.all(
            OutputEdgeTest::budgets, OutputEdgeTest::modes, OutputEdgeTest::modesInOrder, OutputEdgeTest::callsInOrder,
            OutputEdgeTest::notAgain, OutputEdgeTest::inNoCircle, OutputEdgeTest::sizeWithinBudget,
            OutputEdgeTest::sizeWithin500, OutputEdgeTest::variablesWithin120, OutputEdgeTest::letsOfParameters,
            OutputEdgeTest::numbersOfVariables, OutputEdgeTest::foldedParts, OutputEdgeTest::foldedOperations,
            OutputEdgeTest::foldedWraps, OutputEdgeTest::foldedIfs, OutputEdgeTest::droppedFirsts, OutputEdgeTest::foldedLets,
            OutputEdgeTest::droppedLets, OutputEdgeTest::calm, OutputEdgeTest::ends);
    }

    private static void budgets(Edges e) {
        e.sentence(5, "Another budget B: what it was. -2 it is not 0 .. 500.");
        TailTrimmer x = new TailTrimmer();
        e.within("budget(0)", x.budget(0), 20);
        e.within("budget(500)", x.budget(500), 0);
        e.within("budget(499)", x.budget(499), 500);
        for (int b : new int[] {-1, 501, Integer.MIN_VALUE, Integer.MAX_VALUE}) {
            e.beyond("budget(" + b + ")", x.budget(b), -2);
            e.beyond("what it was", x.budget(499), 499);
        }
        TailTrimmer y = Check.reading("def s()=1.def f()=s().");
        y.trim(1);
        y.budget(0);
        e.within("another budget changes no output", y.function(1, 1, 7), 1);
        e.beyond("till it is made anew", y.trim(1), 0);
        y.read();
        e.within("read() keeps it", y.budget(20), 0);
    }

    private static void modes(Edges e) {
        e.sentence(6, "The output is made anew by a mode: how many calls were REPLACED in all. -2 the mode is not 0 .. 7.");
        TailTrimmer x = Check.reading("def s()=1.def f()=s()+s().def g(a)=f()+s();g(a).");
        for (int mode = 0; mode <= 7; mode++) {
            e.within("trim(" + mode + ")", x.trim(mode), (mode & INLINE) * 4);
            e.within("in each of them", x.function(1, 0, 7) + x.function(1, 1, 7) + x.function(1, 2, 7), (mode & INLINE) * 4);
        }
        String before = Check.written(x, 1, 2);
        e.within("the output of mode 7", before, "g(v0)");
        for (int mode : new int[] {-1, 8, 15, Integer.MIN_VALUE, Integer.MAX_VALUE}) {
            e.beyond("trim(" + mode + ")", x.trim(mode), -2);
            e.beyond("its output stays", Check.written(x, 1, 2), before);
        }
        x.trim(0);
        e.within("made anew from what was read", Check.written(x, 1, 2), "((f()+s());g(v0))");
        TailTrimmer y = Check.reading(HUNDRED + "def g(x)=f()+f()+f()+f();if x then g(x-1) else x.");
        y.budget(500);
        for (int i = 0; i < 200; i++) {
            e.within("trim(5), over and over", y.trim(INLINE + TAILS), 4);
        }
        e.within("SIZE of its output", y.function(1, 1, 0), 4 * 101 + 3 + 1 + 7);
        e.within("the last instruction of its output", y.code(1, 1, y.function(1, 1, 5) - 1, 0), 17);
        e.within("a run of its output", y.run(1, 1, 99, 999), 1);
        e.within("trim(7) of no functions", new TailTrimmer().trim(7), 0);
        e.beyond("trim(8) of no functions", new TailTrimmer().trim(8), -2);
    }

    private static void modesInOrder(Edges e) {
        e.sentence(6, "4 THE OUTPUT, by a mode: 1 INLINE, 2 FOLD, 4 TAILS, or sums of these (in this order)");
        TailTrimmer x = Check.reading("def s(p)=p+1.def f(a)=if s(2) then f(s(a)) else s(1).");
        String[] want = {"(if s(2) then f(s(v0)) else s(1))",
            "(if (let v1=2 in (v1+1)) then f((let v2=v0 in (v2+1))) else (let v3=1 in (v3+1)))",
            "(if s(2) then f(s(v0)) else s(1))",
            "f((let v2=v0 in (v2+1)))"};
        for (int mode = 0; mode < 8; mode++) {
            x.trim(mode);
            e.within("mode " + mode, Check.written(x, 1, 1), want[mode & 3]);
            boolean again = Check.code(x, 1, 1).contains("18 0");
            e.beyond("AGAIN by mode " + mode, again ? 1 : 0, (mode & TAILS) == 0 ? 0 : 1);
        }
        // SIZE 21 till it is folded; INLINE is behind when FOLD begins.
        TailTrimmer y = Check.reading("def s()=" + "1+".repeat(10) + "1.def f()=s().");
        e.beyond("a SIZE of 21 is not within 20 before FOLD", y.trim(INLINE + FOLD), 0);
        e.within("FOLD makes it 1", y.function(1, 0, 0), 1);
        y = Check.reading("def s()=" + "1+".repeat(9) + "-1.def f()=s().");
        e.within("a SIZE of 20 is", y.trim(INLINE + FOLD), 1);
    }

    private static void inlined(Edges e, boolean within, int f, String text, String want) {
        TailTrimmer x = Check.reading(text);
        x.trim(INLINE);
        if (within) {
            e.within("INLINE in <" + text + ">", Check.written(x, 1, f), want);
        } else {
            e.beyond("INLINE in <" + text + ">", Check.written(x, 1, f), want);
        }
    }

    private static void callsInOrder(Edges e) {
        e.sentence(6, "functions in the ORDER; in each its calls, operands and arguments before what has them, from the left;");
        inlined(e, true, 1, "def s(p)=p.def f(a)=s(1)+s(2).", "((let v1=1 in v1)+(let v2=2 in v2))");
        inlined(e, true, 1, "def s(p)=p.def f(a)=s(s(a)).", "(let v2=(let v1=v0 in v1) in v2)");
        inlined(e, true, 1, "def s(p,q)=p-q.def f(a)=s(s(1,2),s(3,4)).",
            "(let v5=(let v1=1 in (let v2=2 in (v1-v2))) in (let v6=(let v3=3 in (let v4=4 in (v3-v4))) in (v5-v6)))");
        inlined(e, true, 0, "def f(a)=g(a)+1.def g(b)=h(b)*2.def h(c)=c-3.",
            "((let v1=v0 in ((let v2=v1 in (v2-3))*2))+1)");
        // The first from the left takes the room that is there: 400 nodes may grow by 100.
        TailTrimmer x = Check.reading(HUNDRED + "def s()=1+2.def g()=f()+s()+" + "1+".repeat(197) + "1.");
        x.budget(500);
        e.within("SIZE of g", x.function(0, 2, 0), 399);
        e.within("the one of 100 more", x.trim(INLINE), 1);
        e.beyond("leaves no room for one of 2 more", x.function(1, 2, 0), 499);
    }

    private static void notAgain(Edges e) {
        e.sentence(6, "those that come by this are not looked at again.");
        TailTrimmer x = Check.reading("def big(a)=" + "a+".repeat(10) + "a.def g(x)=big(x).def h(x)=g(x)+g(1).");
        e.within("trim(1)", x.trim(INLINE), 2);
        e.within("calls that came by it", Check.written(x, 1, 2), "((let v1=v0 in big(v1))+(let v2=1 in big(v2)))");
        x.budget(21);
        e.beyond("trim(1) when the big one is within", x.trim(INLINE), 1);
        e.beyond("g has grown to 23 by it", x.function(1, 1, 0), 23);
        e.beyond("and is not within", Check.written(x, 1, 2), "(g(v0)+g(1))");
        x.budget(23);
        e.within("trim(1) when all are within", x.trim(INLINE), 3);
        e.within("no call is left", x.function(1, 2, 3), 0);
    }

    private static void inNoCircle(Edges e) {
        e.sentence(6, "A call of g is REPLACED if g is IN no circle,");
        inlined(e, true, 1, "def g()=1.def f()=g().", "1");
        inlined(e, false, 1, "def g()=g().def f()=g().", "g()");
        inlined(e, false, 0, "def g()=g().", "g()");
        inlined(e, false, 2, "def g()=h().def h()=g().def f()=g()+h().", "(g()+h())");
        inlined(e, true, 2, "def c()=c().def g()=c().def f()=g().", "c()");
        inlined(e, true, 1, "def g()=1.def f(a)=f(g()).", "f(1)");
    }

    private static void sizeWithinBudget(Edges e) {
        e.sentence(6, "the SIZE of its output (so far: g comes before) is at most B,");
        TailTrimmer one = Check.reading("def s()=1.def f()=s().");
        one.budget(1);
        e.within("SIZE 1 of budget 1", one.trim(INLINE), 1);
        one.budget(0);
        e.beyond("SIZE 1 of budget 0", one.trim(INLINE), 0);
        TailTrimmer seven = Check.reading("def s(a)=a*a+a*a.def f()=s(1).");
        seven.budget(7);
        e.within("SIZE 7 of budget 7", seven.trim(INLINE), 1);
        seven.budget(6);
        e.beyond("SIZE 7 of budget 6", seven.trim(INLINE), 0);
        // s has SIZE 3 as it was read, and 7 as an output.
        TailTrimmer grown = Check.reading("def t()=1+2.def s()=t()+t().def f()=s().");
        grown.budget(7);
        e.within("an output of SIZE 7 of budget 7", grown.trim(INLINE), 3);
        grown.budget(6);
        e.beyond("an output of SIZE 7 of budget 6", grown.trim(INLINE), 2);
        // g has 400 - 1 + 101 as an output.
        TailTrimmer most = Check.reading(HUNDRED + "def g()=" + "1+".repeat(199) + "-f().def h()=g().");
        most.budget(500);
        e.within("an output of SIZE 500 of budget 500", most.trim(INLINE), 2);
        e.within("becomes one of SIZE 500", most.function(1, 2, 0), 500);
        most.budget(499);
        e.beyond("an output of SIZE 500 of budget 499", most.trim(INLINE), 1);
        e.beyond("stays a call", most.function(1, 2, 0), 1);
    }

    /** f, and g that has 398 nodes and those of a call of f. */
    private static TailTrimmer growing(String f, String call) {
        TailTrimmer x = Check.reading(f + "def g(x)=" + call + "+" + "x+".repeat(198) + "x.");
        x.budget(500);
        x.trim(INLINE);
        return x;
    }

    private static void sizeWithin500(Edges e) {
        e.sentence(6, "this function's SIZE stays at most 500 by it,");
        TailTrimmer x = growing(HUNDRED, "-f()");
        e.within("SIZE of g", x.function(0, 1, 0), 400);
        e.within("400 and 100 more", x.function(1, 1, 7), 1);
        e.within("are 500", x.function(1, 1, 0), 500);
        x = growing(HUNDRED.replace("=1", "=-1"), "-f()");
        e.beyond("400 and 101 more", x.function(1, 1, 7), 0);
        e.beyond("stay 400", x.function(1, 1, 0), 400);
        // A let comes with each parameter: the call gives way to 1 + 100 or 1 + 101.
        x = growing("def f(a)=" + "a+".repeat(49) + "-a.", "f(x)");
        e.within("400 and a let and 99 more", x.function(1, 1, 7), 1);
        e.within("are 500, too", x.function(1, 1, 0), 500);
        x = growing("def f(a)=" + "a+".repeat(50) + "a.", "f(x)");
        e.beyond("400 and a let and 100 more", x.function(1, 1, 7), 0);
        e.beyond("stay 400, too", x.function(1, 1, 0), 400);
    }

    private static void variablesWithin120(Edges e) {
        e.sentence(6, "its VARIABLES at most 120:");
        String f = "def f(a)=" + "(let b=a in b)+".repeat(39) + "1.";
        TailTrimmer x = Check.reading(f + "def h()=f(1);f(2);f(3).");
        x.budget(500);
        e.within("3 times 40", x.trim(INLINE), 3);
        e.within("are 120", x.function(1, 1, 2), 120);
        x = Check.reading(f + "def h(z)=f(1);f(2);f(3).");
        x.budget(500);
        e.beyond("1 and 3 times 40", x.trim(INLINE), 2);
        e.beyond("stay 81", x.function(1, 1, 2), 81);
        x = Check.reading(f + "def s(a)=a.def h(z)=f(1);f(2);s(1);f(3);s(2).");
        x.budget(500);
        e.within("a smaller one behind it", x.function(0, 2, 3), 5);
        x.trim(INLINE);
        e.within("has room", x.function(1, 2, 7), 4);
        e.within("VARIABLES 1 + 40 + 40 + 1 + 1", x.function(1, 2, 2), 83);
    }

    private static void letsOfParameters(Edges e) {
        e.sentence(6, "it becomes let p0 = a0 in let p1 = a1 in .. g's expression;");
        inlined(e, true, 1, "def s()=7.def f(a)=s().", "7");
        inlined(e, true, 1, "def s(p)=7.def f(a)=s(a).", "(let v1=v0 in 7)");
        inlined(e, true, 1, "def s(p,q)=q-p.def f(a)=s(a,1).", "(let v1=v0 in (let v2=1 in (v2-v1)))");
        inlined(e, true, 1, "def s(a,b,c,d,e,g)=g.def f(a)=s(1,2,3,4,5,6).",
            "(let v1=1 in (let v2=2 in (let v3=3 in (let v4=4 in (let v5=5 in (let v6=6 in v6))))))");
        TailTrimmer x = Check.reading("def s(p,q)=q-p.def f(a)=s(put(1),put(2))+a.");
        x.trim(INLINE);
        x.run(1, 1, 99, 99);
        e.within("arguments are found from the left", x.putAt(0), 1);
        e.within("and once", x.told(3), 2);
        e.beyond("the value", x.told(0), 1);
    }

    private static void numbersOfVariables(Edges e) {
        e.sentence(6, "g's variable i becomes variable n + i, n being how many this one has till then; then it has as many more as g.");
        inlined(e, true, 1, "def s(p)=let q=p in q*p.def f()=s(1)+s(2).",
            "((let v0=1 in (let v1=v0 in (v1*v0)))+(let v2=2 in (let v3=v2 in (v3*v2))))");
        inlined(e, true, 1, "def s(p)=p.def f(a,b)=let c=s(a) in s(c).", "(let v2=(let v3=v0 in v3) in (let v4=v2 in v4))");
        TailTrimmer x = Check.reading("def r(p)=p.def s(p)=r(p)+r(1).def f(a)=s(a).def k()=1.def m(a)=k().");
        x.trim(INLINE);
        e.within("s has 1 + 1 + 1", x.function(1, 1, 2), 3);
        e.within("f has 1 + 3", x.function(1, 2, 2), 4);
        e.within("f", Check.written(x, 1, 2), "(let v1=v0 in ((let v2=v1 in v2)+(let v3=1 in v3)))");
        e.beyond("one of no variables brings none", x.function(1, 4, 2), 1);
        inlined(e, false, 1, "def s(p)=s(p).def f(a)=s(a).", "s(v0)");
    }

    private static String folds(String exp) {
        TailTrimmer x = Check.reading("def f(a,b)=" + exp + ".");
        x.trim(FOLD);
        return Check.written(x, 1, 0);
    }

    private static void folded(Edges e, String exp, String want) {
        e.within("FOLD of <" + exp + ">", folds(exp), want);
    }

    private static void stays(Edges e, String exp, String want) {
        e.beyond("FOLD of <" + exp + ">", folds(exp), want);
    }

    private static void foldedParts(Edges e) {
        e.sentence(6, "FOLD each expression, parts before what has them, from the left:");
        folded(e, "(1+2)*(3-4)", "(-3)");
        folded(e, "a+(1+2)", "(v0+3)");
        folded(e, "f(1+2,put(3*4))", "f(3,put(12))");
        folded(e, "let x=1+1 in let y=x*x in let z=y-x in z", "2");
        stays(e, "a+1+2", "((v0+1)+2)");
        stays(e, "1+a+2", "((1+v0)+2)");
        TailTrimmer x = Check.reading("def f()=1+1.def g()=2+2.def h()=let a=3 in a+3.def k(a)=a.");
        x.trim(FOLD);
        for (int f = 0; f < 3; f++) {
            e.within("each expression", Check.written(x, 1, f), Integer.toString(2 * (f + 1)));
        }
        e.beyond("what a let had in another one is forgotten", Check.written(x, 1, 3), "v0");
        StringBuilder text = new StringBuilder();
        for (int f = 0; f < 24; f++) {
            text.append("def f").append(f).append("(a)=let b=a*").append(f).append(" in if 1 then (a;").append(f).append("+1) else b.");
        }
        TailTrimmer most = Check.reading(text.toString());
        most.trim(FOLD);
        for (int f = 0; f < 24; f++) {
            e.within("each of 24", Check.written(most, 1, f), Integer.toString(f + 1));
            e.beyond("its SIZE as it was read", most.function(0, f, 0), 12);
        }
    }

    private static void foldedOperations(Edges e) {
        e.sentence(6, "an operation (3 .. 10) of NUMBERS is the NUMBER that it is (not / and % by 0);");
        folded(e, "7+3", "10");
        folded(e, "7-3", "4");
        folded(e, "7*3", "21");
        folded(e, "7/3", "2");
        folded(e, "7%3", "1");
        folded(e, "7<3", "0");
        folded(e, "3<7", "1");
        folded(e, "7<7", "0");
        folded(e, "7==7", "1");
        folded(e, "7==3", "0");
        folded(e, "-7", "(-7)");
        folded(e, "-7/2", "(-3)");
        folded(e, "-7%2", "(-1)");
        folded(e, "7/-2", "(-3)");
        folded(e, "7%-2", "1");
        folded(e, "7/1", "7");
        folded(e, "7%1", "0");
        folded(e, "7/-1", "(-7)");
        folded(e, "0/1", "0");
        folded(e, "7*0", "0");
        stays(e, "7/0", "(7/0)");
        stays(e, "7%0", "(7%0)");
        stays(e, "0/0", "(0/0)");
        stays(e, "0%0", "(0%0)");
        stays(e, "(3+4)/(2-2)", "(7/0)");
        stays(e, "1+7%(0*5)", "(1+(7%0))");
        stays(e, "7+a", "(7+v0)");
        stays(e, "a+7", "(v0+7)");
        stays(e, "a-a", "(v0-v0)");
        stays(e, "a*0", "(v0*0)");
        stays(e, "-a", "(-v0)");
        stays(e, "put(7)", "put(7)");
        stays(e, "a==a", "(v0==v0)");
    }

    private static void foldedWraps(Edges e) {
        e.sentence(6, "VALUES are 32 bits with sign, and wrap.");
        folded(e, "2147483646+1", "2147483647");
        stays(e, "2147483647+1", "(-2147483648)");
        folded(e, "-2147483647-1", "(-2147483648)");
        stays(e, "-2147483647-2", "2147483647");
        folded(e, "46340*46340", "2147395600");
        stays(e, "46341*46341", "(-2147479015)");
        stays(e, "65536*65536", "0");
        folded(e, "-(-2147483647)", "2147483647");
        stays(e, "-(-2147483647-1)", "(-2147483648)");
        folded(e, "-2147483647/-1", "2147483647");
        stays(e, "(-2147483647-1)/-1", "(-2147483648)");
        stays(e, "(-2147483647-1)%-1", "0");
        folded(e, "-2147483647-1<2147483647", "1");
    }

    private static void foldedIfs(Edges e) {
        e.sentence(6, "if of a NUMBER is its then (0: its else), which alone is folded;");
        folded(e, "if 1 then a else b", "v0");
        folded(e, "if 2147483647 then a else b", "v0");
        folded(e, "if -1 then a else b", "v0");
        folded(e, "if -2147483647-1 then a else b", "v0");
        folded(e, "if 0 then a else b", "v1");
        folded(e, "if 1-1 then a else b", "v1");
        folded(e, "if 1 then 1+1 else put(2)", "2");
        folded(e, "if 0 then put(1) else 1+1", "2");
        folded(e, "if 1 then 7/0 else 2", "(7/0)");
        folded(e, "if if 0 then 1 else 0 then a else b", "v1");
        folded(e, "1+(if 1 then 2 else a)", "3");
        stays(e, "if a then 1+1 else 2+2", "(if v0 then 2 else 4)");
        stays(e, "if put(0) then a else b", "(if put(0) then v0 else v1)");
        stays(e, "if 1/0 then a else b", "(if (1/0) then v0 else v1)");
        stays(e, "(if 1 then a else b)+(if a then 1 else b)", "(v0+(if v0 then 1 else v1))");
        stays(e, "(if 0 then a else b)+(if b then 1 else put(2))", "(v1+(if v1 then 1 else put(2)))");
        TailTrimmer x = Check.reading("def f()=if 1 then 2 else (let x=3 in f();x).");
        x.trim(FOLD);
        e.within("no call is left", x.function(1, 0, 3), 0);
    }

    private static void droppedFirsts(Edges e) {
        e.sentence(6, "(a;b) is b if a is CALM;");
        folded(e, "a;b", "v1");
        folded(e, "1;2;a", "v0");
        folded(e, "(a;1)+(b;2)", "3");
        folded(e, "6/2;b", "v1");
        folded(e, "(if 0 then put(1) else 2);b", "v1");
        folded(e, "a;put(1)", "put(1)");
        folded(e, "a;7/0", "(7/0)");
        stays(e, "put(1);b", "(put(1);v1)");
        stays(e, "put(1);a;b", "(put(1);v1)");
        stays(e, "6/0;b", "((6/0);v1)");
        stays(e, "f(1,2);b", "(f(1,2);v1)");
    }

    private static void foldedLets(Edges e) {
        e.sentence(6, "let v = a in b: when a has been folded: if it is a NUMBER, it is b, folded with that for v;");
        folded(e, "let x=3 in x+a", "(3+v0)");
        folded(e, "let x=0 in if x then a else b", "v1");
        folded(e, "let x=1+2 in x*x", "9");
        folded(e, "let x=(a;2) in x+x", "4");
        folded(e, "let x=2 in a", "v0");
        folded(e, "let x=2 in put(x);x", "(put(2);2)");
        folded(e, "let x=-1 in f(x,x)", "f((-1),(-1))");
        folded(e, "let x=0 in 7/x", "(7/0)");
        stays(e, "let x=a in x", "(let v2=v0 in v2)");
        stays(e, "let x=put(3) in x", "(let v2=put(3) in v2)");
        stays(e, "let x=(put(1);2) in x", "(let v2=(put(1);2) in v2)");
        stays(e, "let x=7/0 in x", "(let v2=(7/0) in v2)");
        stays(e, "let x=2 in let x=a in x", "(let v3=v0 in v3)");
    }

    private static void droppedLets(Edges e) {
        e.sentence(6, "else, b being folded, it is b alone if v does not stand in it, and a is CALM.");
        folded(e, "let x=a in 5", "5");
        folded(e, "let x=a+b in b", "v1");
        folded(e, "let x=a in if 0 then x else b", "v1");
        folded(e, "let x=a in (x;b)", "v1");
        folded(e, "let x=a in let y=x in b", "v1");
        folded(e, "let x=a in let x=b in x", "(let v3=v1 in v3)");
        folded(e, "let x=a in put(b)", "put(v1)");
        folded(e, "(let x=1 in x)+(let y=a in 2)", "3");
        stays(e, "let x=a in x", "(let v2=v0 in v2)");
        stays(e, "let x=a in 5*x", "(let v2=v0 in (5*v2))");
        stays(e, "let x=a in if b then 1 else x", "(let v2=v0 in (if v1 then 1 else v2))");
        stays(e, "let x=a in let y=x/2 in b", "(let v2=v0 in (let v3=(v2/2) in v1))");
        stays(e, "let x=put(a) in 5", "(let v2=put(v0) in 5)");
        stays(e, "let x=put(a) in x", "(let v2=put(v0) in v2)");
        stays(e, "let x=a/2 in 5", "(let v2=(v0/2) in 5)");
    }

    private static void calm(Edges e) {
        e.sentence(6, "CALM is an expression without call, put, / and %.");
        String[] calmOnes = {"1", "a", "a+b", "a-b", "a*b", "a<b", "a==b", "-a", "a;b", "if a then b else 1", "let x=a in x*x"};
        for (String one : calmOnes) {
            folded(e, "(" + one + ");b", "v1");
            folded(e, "let z=(" + one + ") in b", "v1");
        }
        String[][] others = {{"f(a,b)", "f(v0,v1)"}, {"put(a)", "put(v0)"}, {"a/b", "(v0/v1)"}, {"a%b", "(v0%v1)"}, {"a/1", "(v0/1)"},
            {"-f(a,b)", "(-f(v0,v1))"}, {"a+put(1)", "(v0+put(1))"}, {"a*(b/2)", "(v0*(v1/2))"}, {"a<b%2", "(v0<(v1%2))"},
            {"if a then 1 else put(2)", "(if v0 then 1 else put(2))"}, {"if a then b/a else 2", "(if v0 then (v1/v0) else 2)"}};
        for (String[] one : others) {
            stays(e, "(" + one[0] + ");b", "(" + one[1] + ";v1)");
            stays(e, "let z=(" + one[0] + ") in b", "(let v2=" + one[1] + " in v1)");
        }
    }

    private static void end(Edges e, String exp, String want) {
        TailTrimmer x = Check.reading("def f(a)=" + exp + ".def g()=1.");
        x.trim(TAILS);
        StringBuilder kinds = new StringBuilder();
        for (int i = 0; i < x.function(1, 0, 5); i++) {
            int kind = x.code(1, 0, i, 0);
            kinds.append(kind == 16 ? "C" : kind == 17 ? "R" : kind == 18 ? "A" : kind == 19 ? "T" : "");
        }
        if (want.contains("C")) {
            e.beyond("CALL, RETURN, AGAIN, TAIL of <" + exp + ">", kinds.toString(), want);
        } else {
            e.within("CALL, RETURN, AGAIN, TAIL of <" + exp + ">", kinds.toString(), want);
        }
    }

    private static void ends(Edges e) {
        e.sentence(6, "TAILS: at an END a call takes its caller's place: ENDS are a function's expression; of an END if its second and third,"
            + " of let and ; the second.");
        end(e, "f(a)", "A");
        end(e, "g()", "T");
        end(e, "if a then f(1) else g()", "AT");
        end(e, "let x=a in f(x)", "A");
        end(e, "a;g()", "T");
        end(e, "if a then let x=a in g() else a;if a then f(2) else 3", "TAR");
        end(e, "1", "R");
        end(e, "if g() then 1 else 2", "CRR");
        end(e, "let x=g() in x", "CR");
        end(e, "g();a", "CR");
        end(e, "g()+1", "CR");
        end(e, "1+g()", "CR");
        end(e, "-g()", "CR");
        end(e, "put(f(a))", "CR");
        end(e, "f(f(a))", "CA");
        end(e, "f(g())", "CA");
        end(e, "1+(if a then f(1) else g())", "CCR");
        end(e, "(if a then f(1) else g());1", "CCR");
        end(e, "let x=if a then f(1) else g() in x", "CCR");
        end(e, "(let x=a in g())+1", "CR");
        end(e, "put(a;g())", "CR");
        TailTrimmer x = Check.reading("def f(a)=f(a).");
        for (int mode = 0; mode < 4; mode++) {
            x.trim(mode);
            e.beyond("without TAILS", Check.code(x, 1, 0), "2 0 16 0 17 0");
        }
        x.trim(TAILS);
        e.beyond("what was read has none", Check.code(x, 0, 0), "2 0 16 0 17 0");
    }
}
