/** Promise 12, and of promise 7 FRAME, instructions and BOUND. */
public final class CodeTest {
    private static final Check CHECK = new Check();

    public static void main(String[] args) {
        instructions();
        ends();
        tails();
        slots();
        temps();
        bounds();
        boundsOfTails();
        refusals();
        CHECK.finish();
    }

    private static void source(String exp, String want) {
        CHECK.due("code of <" + exp + ">", Check.code(Check.reading("def f(a,b)=" + exp + ".def g()=1."), 0, 0), want);
    }

    private static void instructions() {
        source("7", "1 7 17 0");
        source("b", "2 1 17 0");
        source("a+b", "2 0 2 1 3 0 17 0");
        source("a-b", "2 0 2 1 4 0 17 0");
        source("a*b", "2 0 2 1 5 0 17 0");
        source("a/b", "2 0 2 1 6 0 17 0");
        source("a%b", "2 0 2 1 7 0 17 0");
        source("a<b", "2 0 2 1 8 0 17 0");
        source("a==b", "2 0 2 1 9 0 17 0");
        source("-a", "2 0 10 0 17 0");
        source("put(a)", "2 0 11 0 17 0");
        source("a;b", "2 0 12 0 2 1 17 0");
        source("let x=a in x", "2 0 13 2 2 2 17 0");
        source("f(b,a)", "2 1 2 0 16 0 17 0");
        source("g()", "16 1 17 0");
        source("2147483647", "1 2147483647 17 0");
    }

    private static void ends() {
        source("if a then b else 3", "2 0 14 4 2 1 17 0 1 3 17 0");
        source("(if a then b else 3)+1", "2 0 14 4 2 1 15 5 1 3 1 1 3 0 17 0");
        source("(if a then 1 else 2);b", "2 0 14 4 1 1 15 5 1 2 12 0 2 1 17 0");
        source("b;if a then 1 else 2", "2 1 12 0 2 0 14 6 1 1 17 0 1 2 17 0");
        source("let x=if a then 1 else 2 in if x then 3 else x",
            "2 0 14 4 1 1 15 5 1 2 13 2 2 2 14 10 1 3 17 0 2 2 17 0");
        source("if (if a then 1 else 2) then 3 else 4", "2 0 14 4 1 1 15 5 1 2 14 8 1 3 17 0 1 4 17 0");
        source("if a then if b then 1 else 2 else 3", "2 0 14 8 2 1 14 6 1 1 17 0 1 2 17 0 1 3 17 0");
        source("put(if a then 1 else 2)", "2 0 14 4 1 1 15 5 1 2 11 0 17 0");
    }

    private static void tailed(String text, String want) {
        TailTrimmer x = Check.reading(text);
        x.trim(4);
        CHECK.due("tails of <" + text + ">", Check.code(x, 1, 0), want);
    }

    private static void tails() {
        tailed("def f(a)=f(a).", "2 0 18 0");
        tailed("def f(a)=g(a).def g(a)=a.", "2 0 19 1");
        tailed("def f(a)=g()+1.def g()=1.", "16 1 1 1 3 0 17 0");
        tailed("def f(a)=-f(a).", "2 0 16 0 10 0 17 0");
        tailed("def f(a)=f(f(a)).", "2 0 16 0 18 0");
        tailed("def f(a)=put(f(a)).", "2 0 16 0 11 0 17 0");
        tailed("def f(a)=f(a);a.", "2 0 16 0 12 0 2 0 17 0");
        tailed("def f(a)=a;f(a).", "2 0 12 0 2 0 18 0");
        tailed("def f(a)=let x=f(a) in x.", "2 0 16 0 13 1 2 1 17 0");
        tailed("def f(a)=let x=a in f(x).", "2 0 13 1 2 1 18 0");
        tailed("def f(a)=if f(a) then f(1) else g().def g()=1.", "2 0 16 0 14 5 1 1 18 0 19 1");
        tailed("def f(a)=(if a then f(1) else 2);3.", "2 0 14 5 1 1 16 0 15 6 1 2 12 0 1 3 17 0");
        TailTrimmer x = Check.reading("def f(a,b)=let c=a*b in if c<a then put(c);c else f(a-1,-b).");
        String head = "2 0 2 1 5 0 13 2 2 2 2 0 8 0 14 13 2 2 11 0 12 0 2 2 17 0 2 0 1 1 4 0 2 1 10 0 ";
        CHECK.due("without", Check.code(x, 0, 0), head + "16 0 17 0");
        CHECK.due("output of mode 0", Check.code(x, 1, 0), head + "16 0 17 0");
        x.trim(4);
        CHECK.due("with", Check.code(x, 1, 0), head + "18 0");
        CHECK.due("the source stays", Check.code(x, 0, 0), head + "16 0 17 0");
        CHECK.due("instructions", x.function(1, 0, 5), 19);
        x.trim(3);
        CHECK.due("and without again", Check.code(x, 1, 0), head + "16 0 17 0");
        TailTrimmer second = Check.reading("def f()=1.def g(a)=g(a).");
        second.trim(4);
        CHECK.due("AGAIN has no number", Check.code(second, 1, 1), "2 0 18 0");
        TailTrimmer y = Check.reading("def f(a)=if a then 5 else g(-3+1).def g(x)=f(x).");
        y.trim(7);
        CHECK.due("all three", Check.code(y, 1, 0), "2 0 14 4 1 5 17 0 1 -2 19 1");
    }

    private static void slots() {
        source("(let x=a in x)+(let y=1 in let z=2 in y+z)",
            "2 0 13 2 2 2 1 1 13 2 1 2 13 3 2 2 2 3 3 0 3 0 17 0");
        // A let within what another one is told is not inside that other one.
        source("let x=let y=1 in y in x", "1 1 13 2 2 2 13 2 2 2 17 0");
        CHECK.due("FRAME of slots 4 and temps 3",
            Check.reading("def f(a,b)=(let x=a in x)+(let y=1 in let z=2 in y+z).").function(0, 0, 4), 9);
        CHECK.due("parameters that are not used", Check.reading("def f(a,b,c)=1.").function(0, 0, 4), 2 + 3 + 1);
        CHECK.due("no slots", Check.reading("def f()=1.").function(0, 0, 4), 3);
        CHECK.due("a let that is only stored", Check.reading("def f()=let x=1 in 2.").function(0, 0, 4), 4);
        TailTrimmer x = Check.reading("def f(a)=let b=1 in let c=a in let d=c in d.");
        CHECK.due("slots 4", x.function(0, 0, 4), 2 + 4 + 1);
        x.trim(2);
        CHECK.due("slots are counted anew", x.function(1, 0, 4), 2 + 3 + 1);
        CHECK.due("by what is around", Check.code(x, 1, 0), "2 0 13 1 2 1 13 2 2 2 17 0");
    }

    private static void frame(String exp, int temps) {
        CHECK.due("TEMPS of <" + exp + ">", Check.reading("def f(a)=" + exp + ".def g(x,y,z)=1.").function(0, 0, 4), 3 + temps);
    }

    private static void temps() {
        frame("a", 1);
        frame("a+1", 2);
        frame("a+(1+(2+3))", 4);
        frame("a+1+2+3", 2);
        frame("a;1;2", 1);
        frame("g(1,2,3)", 3);
        frame("1+g(1,2,3)", 4);
        frame("g(1,2,3)+1", 3);
        frame("g(1,2,3+4)", 4);
        frame("(if a then 1+2 else 3)+(if a then 1 else 2+(3+4))", 4);
        frame("if a+(a+a) then 1 else 2", 3);
        frame("-put(a)", 1);
        CHECK.due("a call that takes nothing lays one", Check.reading("def f()=f()+f().").function(0, 0, 4), 4);
        TailTrimmer x = Check.reading("def f()=f().");
        CHECK.due("CALL lays one", x.function(1, 0, 4), 3);
        x.trim(4);
        CHECK.due("AGAIN lays none", x.function(1, 0, 4), 2);
        TailTrimmer y = Check.reading("def f()=g().def g()=1.");
        y.trim(4);
        CHECK.due("TAIL lays none", y.function(1, 0, 4), 2);
    }

    private static void bounds() {
        TailTrimmer x = Check.reading("def a()=1+b().def b()=c(1,2).def c(x,y)=x.def d()=a()+b()+c(1,1).");
        int[] frames = {4, 4, 5, 5};
        int[] bounds = {13, 9, 5, 18};
        for (int f = 0; f < 4; f++) {
            CHECK.due("FRAME " + f, x.function(0, f, 4), frames[f]);
            CHECK.due("BOUND " + f, x.function(0, f, 6), bounds[f]);
        }
        TailTrimmer y = Check.reading("def a()=a().def b()=a().def c()=if 0 then b() else 1.def d()=1.");
        int[] none = {-1, -1, -1, 3};
        for (int f = 0; f < 4; f++) {
            CHECK.due("BOUND that may be none " + f, y.function(0, f, 6), none[f]);
        }
        y.trim(2);
        CHECK.due("what was folded away is not called", y.function(1, 2, 6), 3);
        CHECK.due("the source still calls it", y.function(0, 2, 6), -1);
    }

    private static void boundsOfTails() {
        TailTrimmer x = Check.reading("def a()=1+b().def b()=c(1,2).def c(x,y)=x.");
        x.trim(4);
        CHECK.due("c", x.function(1, 2, 6), 5);
        CHECK.due("b takes c in its place", x.function(1, 1, 6), 5);
        CHECK.due("a stays below it", x.function(1, 0, 6), 9);
        // Circles of TAILS alone have the greatest of all in them, also of what they CALL.
        TailTrimmer ring = Check.reading(
            "def a(n)=if n then b(n-1) else 0.def b(n)=c(n,n).def c(n,m)=let k=h(n) in a(k).def h(n)=n+(n+n).def m(n)=1+a(n).");
        CHECK.due("without TAILS there is none", ring.function(1, 0, 6), -1);
        ring.trim(4);
        CHECK.due("FRAME of c", ring.function(1, 2, 4), 2 + 3 + 1);
        CHECK.due("FRAME of h", ring.function(1, 3, 4), 2 + 1 + 3);
        for (int f = 0; f < 3; f++) {
            CHECK.due("BOUND in the circle " + f, ring.function(1, f, 6), 12);
        }
        CHECK.due("BOUND of m", ring.function(1, 4, 6), 2 + 1 + 2 + 12);
        // A CALL in the circle, even where another way is by TAILS alone.
        TailTrimmer call = Check.reading("def a(n)=if n then b(n) else 1+b(n).def b(n)=a(n-1).def c(n)=a(n).def d(n)=c(n);2.");
        call.trim(4);
        for (int f = 0; f < 4; f++) {
            CHECK.due("a circle with a CALL " + f, call.function(1, f, 6), -1);
        }
        TailTrimmer loop = Check.reading("def f(n)=if n then f(n-1) else 1.def g(n)=f(f(n)).");
        loop.trim(4);
        CHECK.due("AGAIN needs no more", loop.function(1, 0, 6), 5);
        CHECK.due("CALL and TAIL of one", loop.function(1, 1, 6), 4 + 5);
    }

    private static void refusals() {
        TailTrimmer x = Check.reading("def f()=1.");
        CHECK.due("kind", x.code(1, 0, 0, 0), 1);
        CHECK.due("number", x.code(1, 0, 0, 1), 1);
        CHECK.due("no instruction", x.code(0, 0, 2, 0), -1);
        CHECK.due("instruction -1", x.code(0, 0, -1, 0), -1);
        CHECK.due("instruction most", x.code(0, 0, Integer.MAX_VALUE, 0), -1);
        CHECK.due("no which", x.code(2, 0, 0, 0), -1);
        CHECK.due("which -1", x.code(-1, 0, 0, 0), -1);
        CHECK.due("no function", x.code(0, 1, 0, 0), -1);
        CHECK.due("function -1", x.code(0, -1, 0, 0), -1);
        CHECK.due("no what", x.code(0, 0, 0, 2), -2);
        CHECK.due("what -1", x.code(0, 0, 0, -1), -2);
        CHECK.due("-1 before -2", x.code(0, 0, 2, 2), -1);
    }
}
