/** Promises 5, 6, 7, 10, 11: budget, trim, function, write, octet. */
public final class TrimTest {
    private static final Check CHECK = new Check();

    public static void main(String[] args) {
        budgets();
        inlining();
        inlineLimits();
        folding();
        foldingLets();
        modes();
        functionAnswers();
        writing();
        writtenTooLong();
        refusals();
        CHECK.finish();
    }

    private static void budgets() {
        TailTrimmer x = new TailTrimmer();
        CHECK.due("budget at first", x.budget(0), 20);
        CHECK.due("budget 500", x.budget(500), 0);
        CHECK.due("budget 501", x.budget(501), -2);
        CHECK.due("budget -1", x.budget(-1), -2);
        CHECK.due("refused ones change nothing", x.budget(7), 500);
        Check.lay(x, "def f(a)=a*a+a*a.def g(a)=f(a).");
        CHECK.due("read", x.read(), 2);
        CHECK.due("SIZE 7 within 7", x.trim(1), 1);
        CHECK.due("budget 6", x.budget(6), 7);
        CHECK.due("the output stays till it is made anew", x.function(1, 1, 7), 1);
        CHECK.due("SIZE 7 not within 6", x.trim(1), 0);
        CHECK.due("made anew", x.function(1, 1, 7), 0);
        x.budget(0);
        CHECK.due("budget 0 takes nothing", x.trim(1), 0);
        Check.lay(x, "def f(a)=" + "a+".repeat(9) + "-a.def g(a)=f(a).");
        x.read();
        x.budget(20);
        CHECK.due("SIZE 20 within 20", x.trim(1), 1);
        CHECK.due("read keeps the budget", x.budget(20), 20);
    }

    private static void inlined(String text, int f, int count, String want) {
        TailTrimmer x = Check.reading(text);
        CHECK.due("trim(1) of <" + text + ">", x.trim(1), count);
        CHECK.due("output of <" + text + ">", Check.written(x, 1, f), want);
        CHECK.due("source of <" + text + ">", Check.written(x, 0, f), Check.written(Check.reading(text), 0, f));
    }

    private static void inlining() {
        inlined("def one()=1.def g()=one()+one().", 1, 2, "(1+1)");
        inlined("def f(a,b)=a-b.def g(x)=f(x,f(x,2)).", 1, 2,
            "(let v3=v0 in (let v4=(let v1=v0 in (let v2=2 in (v1-v2))) in (v3-v4)))");
        inlined("def f(a)=let b=a in b*b.def g(x)=let y=x in f(y)+f(x).", 1, 2,
            "(let v1=v0 in ((let v2=v1 in (let v3=v2 in (v3*v3)))+(let v4=v0 in (let v5=v4 in (v5*v5)))))");
        // What g has taken in comes along; what it has left is not looked at again.
        inlined("def f()=2.def g(a)=f()+a.def h()=g(3).", 2, 2, "(let v0=3 in (2+v0))");
        inlined("def h()=g(3).def g(a)=f()+a.def f()=2.", 0, 2, "(let v0=3 in (2+v0))");
        // Those in circles stay, also when they are small and the caller is in none.
        inlined("def f(a)=f(a).def g()=f(1).", 1, 0, "f(1)");
        inlined("def f(a)=g(a).def g(a)=f(a).def h(a)=g(f(a)).", 2, 0, "g(f(v0))");
        inlined("def f(a)=if a then f(h(a)) else 1.def h(a)=a-1.", 0, 1, "(if v0 then f((let v1=v0 in (v1-1))) else 1)");
        inlined("def f(a)=f(a).def g(a)=f(a+1).def h()=g(2).", 2, 1, "(let v0=2 in f((v0+1)))");
        TailTrimmer x = Check.reading("def big(a)=" + "a+".repeat(15) + "a.def g(x)=big(x).def h(x)=g(x)+g(1).");
        CHECK.due("a call of the big one comes along", x.trim(1), 2);
        CHECK.due("and is not looked at again", Check.written(x, 1, 2), "((let v1=v0 in big(v1))+(let v2=1 in big(v2)))");
        CHECK.due("in g", x.function(1, 1, 7), 0);
        CHECK.due("in h", x.function(1, 2, 7), 2);
        x.budget(31);
        CHECK.due("g is too big now", x.trim(1), 1);
        CHECK.due("for h", Check.written(x, 1, 2), "(g(v0)+g(1))");
        CHECK.due("its SIZE", x.function(1, 1, 0), 33);
    }

    private static void inlineLimits() {
        // f: SIZE 99, one parameter: a call of it becomes 99 nodes more (100 for the 1 of the call).
        String f = "def f(a)=" + "a+".repeat(49) + "a.";
        TailTrimmer x = Check.reading(f + "def g(x)=f(x)+f(x)+f(x)+f(x)+f(x).");
        x.budget(500);
        CHECK.due("SIZE 14 + 4 * 99", x.trim(1), 4);
        CHECK.due("is 410", x.function(1, 1, 0), 410);
        CHECK.due("the last one stays", x.function(1, 1, 3), 1);
        // 400 nodes and one call of 1 + 99: 500 are within, 501 not.
        String g = "def g(x)=" + "x+".repeat(199) + "f(x).";
        x = Check.reading(f + g);
        x.budget(500);
        CHECK.due("400 + 99", x.trim(1), 1);
        CHECK.due("are 499", x.function(1, 1, 0), 499);
        x = Check.reading(f.replace("=a", "=-a") + g);
        x.budget(500);
        CHECK.due("400 + 100", x.trim(1), 1);
        CHECK.due("are 500", x.function(1, 1, 0), 500);
        x = Check.reading(f.replace("=a", "=--a") + g);
        x.budget(500);
        CHECK.due("400 + 101 are too many", x.trim(1), 0);
        // A smaller one behind a refused one is still taken.
        x = Check.reading(f.replace("=a", "=----a") + "def s()=3.def g(x)=s()*f(x)*s()+" + "x+".repeat(195) + "x.");
        CHECK.due("398 nodes, and 103 more would be 501", x.function(0, 2, 0), 398);
        x.budget(500);
        CHECK.due("small ones around a large one", x.trim(1), 2);
        // 39 lets and a parameter: 40 variables a call, 120 in all.
        String lets = "(let b=a in b)+".repeat(39);
        x = Check.reading("def f(a)=" + lets + "1.def g()=f(1).def h()=f(1);f(2);f(3).def k(z)=f(1);f(2);f(3).");
        x.budget(500);
        CHECK.due("SIZE of f", x.function(0, 0, 0), 39 * 4 + 1);
        CHECK.due("120 variables are within", x.trim(1), 1 + 3 + 2);
        CHECK.due("VARIABLES of h", x.function(1, 2, 2), 120);
        CHECK.due("121 are not", x.function(1, 3, 7), 2);
        CHECK.due("VARIABLES of k", x.function(1, 3, 2), 81);
    }

    private static void folded(String exp, String want) {
        TailTrimmer x = Check.reading("def f(a,b)=" + exp + ".");
        CHECK.due("trim(2)", x.trim(2), 0);
        CHECK.due("fold of <" + exp + ">", Check.written(x, 1, 0), want);
    }

    private static void folding() {
        folded("1+2*3-4", "3");
        folded("7/2", "3");
        folded("-7/2", "(-3)");
        folded("-7%2", "(-1)");
        folded("7%-2", "1");
        folded("7/0", "(7/0)");
        folded("(1+1)%(1-1)", "(2%0)");
        folded("0/5", "0");
        folded("3<4", "1");
        folded("4<3", "0");
        folded("-3<3", "1");
        folded("3==3", "1");
        folded("3==4", "0");
        folded("--5", "5");
        folded("-(1+4)", "(-5)");
        folded("2147483647+1", "(-2147483648)");
        folded("-(2147483647+1)", "(-2147483648)");
        folded("(-2147483647-1)/-1", "(-2147483648)");
        folded("(-2147483647-1)%-1", "0");
        folded("65536*65536", "0");
        folded("a+(1+2)", "(v0+3)");
        folded("a+1+2", "((v0+1)+2)");
        folded("a*0", "(v0*0)");
        folded("put(1+2)", "put(3)");
        folded("put(1)+2", "(put(1)+2)");
        folded("f(1+1,2*2)", "f(2,4)");
        folded("if 1 then a else b", "v0");
        folded("if 0 then a else b", "v1");
        folded("if 1-2 then 1+1 else f(a,b)", "2");
        folded("if a then 1+1 else 2*2", "(if v0 then 2 else 4)");
        folded("if (if 1 then 0 else a) then f(1,2) else put(3+4)", "put(7)");
        folded("a;b", "v1");
        folded("1;2;a", "v0");
        folded("a;put(1);b", "(put(1);v1)");
        folded("put(1);a;b", "(put(1);v1)");
        folded("a/1;b", "((v0/1);v1)");
        folded("6/2;b", "v1");
        folded("a%2;b", "((v0%2);v1)");
        folded("f(1,2);b", "(f(1,2);v1)");
        folded("(if a then 1 else b*2);b", "v1");
        folded("(if a then put(1) else 2);b", "((if v0 then put(1) else 2);v1)");
        folded("(if 0 then put(1) else 2);b", "v1");
        folded("(a;1)+(b;2)", "3");
    }

    private static void foldingLets() {
        folded("let x=3 in x+a", "(3+v0)");
        folded("let x=1+2 in x*x", "9");
        folded("let x=3 in let y=x+1 in y*a", "(4*v0)");
        folded("let x=a in 5", "5");
        folded("let x=a in x", "(let v2=v0 in v2)");
        folded("let x=put(a) in 5", "(let v2=put(v0) in 5)");
        folded("let x=a/b in 5", "(let v2=(v0/v1) in 5)");
        folded("let x=a%b in 5", "(let v2=(v0%v1) in 5)");
        folded("let x=f(a,b) in 5", "(let v2=f(v0,v1) in 5)");
        folded("let x=a in if 0 then x else b", "v1");
        folded("let x=a in (x;b)", "v1");
        folded("let x=a in let y=x in b", "v1");
        folded("let x=a in let y=x/2 in b", "(let v2=v0 in (let v3=(v2/2) in v1))");
        folded("let x=(put(1);2) in x", "(let v2=(put(1);2) in v2)");
        folded("let x=(b;2) in x+x", "4");
        folded("let x=0 in if x then f(a,b) else 1/x", "(1/0)");
        folded("let x=2 in let x=a in x*x", "(let v3=v0 in (v3*v3))");
        folded("let x=let y=1 in y+1 in x+a", "(2+v0)");
        folded("let x=-1 in put(x)", "put((-1))");
        TailTrimmer x = Check.reading("def f(a)=let b=2 in let c=a in b*3.");
        x.trim(2);
        CHECK.due("VARIABLES that came and went", x.function(1, 0, 2), 3);
        CHECK.due("SIZE of what is left", x.function(1, 0, 0), 1);
        CHECK.due("the source keeps its SIZE", x.function(0, 0, 0), 7);
        TailTrimmer y = Check.reading("def f(a)=let b=2 in b*a.def g(a,b)=b*a.");
        y.trim(2);
        CHECK.due("what is known of v1 in f", Check.written(y, 1, 0), "(2*v0)");
        CHECK.due("is not known in g", Check.written(y, 1, 1), "(v1*v0)");
    }

    private static void modes() {
        TailTrimmer x = Check.reading("def f(n)=n*2.def g(a)=if f(0) then g(a) else h(f(3)).def h(z)=if z then g(z-f(1)) else z.");
        String[] want = {
            "(if f(0) then g(v0) else h(f(3)))",
            "(if (let v1=0 in (v1*2)) then g(v0) else h((let v2=3 in (v2*2))))",
            "(if f(0) then g(v0) else h(f(3)))",
            "h(6)"};
        for (int mode = 0; mode < 8; mode++) {
            CHECK.due("mode " + mode, x.trim(mode), (mode & 1) * 3);
            CHECK.due("output of mode " + mode, Check.written(x, 1, 1), want[mode & 3]);
            int last = x.function(1, 1, 5) - 1;
            CHECK.due("its last instruction", x.code(1, 1, last, 0), mode < 4 ? 17 : 19);
        }
        CHECK.due("mode 8", x.trim(8), -2);
        CHECK.due("mode -1", x.trim(-1), -2);
        CHECK.due("a refused mode changes nothing", Check.written(x, 1, 1), "h(6)");
        CHECK.due("INLINE comes before FOLD for all", x.function(1, 1, 7), 2);
        // f has SIZE 23 till it is folded, and INLINE comes before.
        TailTrimmer y = Check.reading("def f()=" + "1+".repeat(11) + "1.def g()=f().");
        CHECK.due("SIZE before FOLD counts", y.trim(3), 0);
        CHECK.due("folded", y.function(1, 0, 0), 1);
    }

    private static void functionAnswers() {
        TailTrimmer x = Check.reading("def f(a,b)=let c=a in put(c+b);g(c)*g(1).def g(x)=-x.");
        int[] source = {12, 2, 3, 2, 7, 13, 11, 0};
        for (int what = 0; what < 8; what++) {
            CHECK.due("source what " + what, x.function(0, 0, what), source[what]);
        }
        CHECK.due("replaced", x.trim(1), 2);
        int[] output = {16, 2, 5, 0, 8, 17, 8, 2};
        for (int what = 0; what < 8; what++) {
            CHECK.due("output what " + what, x.function(1, 0, what), output[what]);
            CHECK.due("the source stays, what " + what, x.function(0, 0, what), source[what]);
        }
    }

    private static void writing() {
        TailTrimmer x = Check.reading("def abcd5678(a)=if a==0 then abcd5678(-a) else let b=put(a) in b;b<2.def z()=0.");
        String want = "(if (v0==0) then abcd5678((-v0)) else (let v1=put(v0) in (v1;(v1<2))))";
        CHECK.due("how many bytes", x.write(0, 0), want.length());
        CHECK.due("the bytes", Check.latest(x, want.length()), want);
        CHECK.due("behind them", x.octet(want.length()), -1);
        CHECK.due("before them", x.octet(-1), -1);
        CHECK.due("far behind", x.octet(Integer.MAX_VALUE), -1);
        CHECK.due("far before", x.octet(Integer.MIN_VALUE), -1);
        CHECK.due("another one", x.write(0, 1), 1);
        CHECK.due("takes its place", x.octet(0), '0');
        CHECK.due("whole", x.octet(1), -1);
        CHECK.due("refused", x.write(0, 2), -1);
        CHECK.due("what was written stays", x.octet(0), '0');
        Check.lay(x, "def q()=5.");
        x.read();
        CHECK.due("also behind a read", x.octet(0), '0');
        TailTrimmer y = Check.reading("def f(a,b,c)=f(a,b+1,c-1*2/3%4).def g()=g()+0.");
        CHECK.due("operations", Check.written(y, 0, 0), "f(v0,(v1+1),(v2-(((1*2)/3)%4)))");
        CHECK.due("no arguments", Check.written(y, 0, 1), "(g()+0)");
    }

    /** So many ifs, as shallow as may be, with calls of b at the leaves. */
    private static String ifs(int count) {
        if (count == 0) {
            return "b()";
        }
        int rest = count - 1;
        int third = rest / 3;
        return "if " + ifs(third) + " then " + ifs(third) + " else " + ifs(rest - 2 * third);
    }

    private static TailTrimmer longOne(String around) {
        String b = "def b()=if 2147483647 then 2147483647 else 2147483647.";
        int depth = around.length() - around.replace("(", "").length();
        TailTrimmer x = Check.reading(b + "def c()=" + around + "(" + ifs(53) + ")" + ")".repeat(depth) + ".");
        CHECK.due("107 calls of b", x.trim(1), 107);
        CHECK.due("what is written before", x.write(0, 0), 47);
        return x;
    }

    private static void writtenTooLong() {
        // An if has 17 bytes beside its parts: 53 * 17 + 107 * 47 are 5930; put() has 5, (-) has 3.
        TailTrimmer x = longOne("put(".repeat(14));
        CHECK.due("SIZE", x.function(1, 1, 0), 53 + 107 * 4 + 14);
        CHECK.due("6000 bytes", x.write(1, 1), 6000);
        CHECK.due("the last one", x.octet(5999), ')');
        CHECK.due("behind it", x.octet(6000), -1);
        x = longOne("put(".repeat(13) + "--");
        CHECK.due("6001 bytes", x.write(1, 1), -4);
        CHECK.due("what was written stays", Check.latest(x, 47), "(if 2147483647 then 2147483647 else 2147483647)");
        CHECK.due("and no more", x.octet(47), -1);
        CHECK.due("no such function before no room", x.write(1, 2), -1);
    }

    private static void refusals() {
        TailTrimmer x = Check.reading("def f()=1.");
        CHECK.due("which 2", x.function(2, 0, 0), -1);
        CHECK.due("which -1", x.function(-1, 0, 0), -1);
        CHECK.due("f 1", x.function(0, 1, 0), -1);
        CHECK.due("f -1", x.function(1, -1, 0), -1);
        CHECK.due("f 24", x.function(1, 24, 0), -1);
        CHECK.due("what 8", x.function(0, 0, 8), -2);
        CHECK.due("what -1", x.function(1, 0, -1), -2);
        CHECK.due("-1 before -2", x.function(2, 0, 8), -1);
        CHECK.due("-1 of f before -2", x.function(0, 1, 8), -1);
        CHECK.due("write which", x.write(2, 0), -1);
        CHECK.due("write which -1", x.write(-1, 0), -1);
        CHECK.due("write f", x.write(0, 1), -1);
        CHECK.due("write f -1", x.write(1, -1), -1);
        CHECK.due("nothing was written", x.octet(0), -1);
    }
}
