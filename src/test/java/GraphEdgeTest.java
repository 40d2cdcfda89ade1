/** Promises 8 and 9: which call which, circles, the ORDER, each on both sides of its boundary. */
public final class GraphEdgeTest {
    private static final int MOST = 24;

    public static void main(String[] args) {
        look(new Edges()).finish();
    }

    static Edges look(Edges e) {
        return e.all(
            GraphEdgeTest::direct, GraphEdgeTest::circles, GraphEdgeTest::inCircles, GraphEdgeTest::answers,
            GraphEdgeTest::refusedCalls, GraphEdgeTest::looks, GraphEdgeTest::looksFromTheLeft, GraphEdgeTest::refusedOrders);
    }

    private static void direct(Edges e) {
        e.sentence(8, "Function f CALLS g if its exp has a call of it.");
        TailTrimmer x = Check.reading("def a()=b().def b()=c().def c()=1.def d(b)=b.def s()=s().");
        e.within("a b", x.calls(0, 1, 0), 1);
        e.beyond("b a", x.calls(1, 0, 0), 0);
        e.beyond("a c, by way of b", x.calls(0, 2, 0), 0);
        e.beyond("a a", x.calls(0, 0, 0), 0);
        e.within("s s", x.calls(4, 4, 0), 1);
        e.beyond("d b, which is a variable there", x.calls(3, 1, 0), 0);
        String[] exps = {"1+a()", "-a()", "put(a())", "a();1", "1;a()", "if a() then 1 else 2", "if 1 then a() else 2",
            "if 1 then 2 else a()", "let x=a() in 1", "let x=1 in a()", "g(a(),1)", "g(1,a())", "1<a()", "a()==1"};
        for (String exp : exps) {
            TailTrimmer y = Check.reading("def f()=" + exp + ".def a()=1.def g(p,q)=1.def h()=1.");
            e.within("a in <" + exp + ">", y.calls(0, 1, 0), 1);
            e.beyond("h in <" + exp + ">", y.calls(0, 3, 0), 0);
        }
        TailTrimmer trimmed = Check.reading("def a()=1.def b()=a().");
        trimmed.trim(7);
        e.within("as they were read", trimmed.calls(1, 0, 0), 1);
        Check.lay(trimmed, "def a()=b().def b()=1.");
        trimmed.read();
        e.within("of another text", trimmed.calls(0, 1, 0), 1);
        e.beyond("no more", trimmed.calls(1, 0, 0), 0);
    }

    private static void circles(Edges e) {
        e.sentence(8, "Two are of one CIRCLE if each comes to the other one by calls;");
        TailTrimmer x = Check.reading("def a()=b().def b()=a().def c()=a();d().def d()=c().def g()=1.");
        e.within("a b", x.calls(0, 1, 1), 1);
        e.within("b a", x.calls(1, 0, 1), 1);
        e.within("c d", x.calls(2, 3, 1), 1);
        e.beyond("c a: there is no way back", x.calls(2, 0, 1), 0);
        e.beyond("a c", x.calls(0, 2, 1), 0);
        e.beyond("a g", x.calls(0, 4, 1), 0);
        TailTrimmer ring = Check.reading(functions(true));
        TailTrimmer chain = Check.reading(functions(false));
        for (int f = 0; f < MOST; f += 1) {
            e.within("a ring of 24: 0 and " + f, ring.calls(0, f, 1), 1);
            e.within("a ring of 24: 23 and " + f, ring.calls(23, f, 1), 1);
            e.beyond("a chain of 24: 0 and " + f, chain.calls(0, f, 1), 0);
            e.beyond("a chain of 24: 23 and " + f, chain.calls(23, f, 1), 0);
        }
    }

    /** 24 functions, each of which calls the next one; the last calls the first one or none. */
    private static String functions(boolean ring) {
        StringBuilder text = new StringBuilder();
        for (int f = 0; f < MOST; f++) {
            String last = ring ? "f0()" : "1";
            text.append("def f").append(f).append("()=").append(f == MOST - 1 ? last : "f" + (f + 1) + "()").append('.');
        }
        return text.toString();
    }

    private static void inCircles(Edges e) {
        e.sentence(8, "a function is IN a circle if it comes to itself.");
        TailTrimmer x = Check.reading("def a()=a().def b()=c().def c()=b().def d()=a()+b().def g()=1.");
        e.within("by itself", x.calls(0, 0, 1), 1);
        e.within("by another one", x.calls(1, 1, 1), 1);
        e.within("by another one, too", x.calls(2, 2, 1), 1);
        e.beyond("one that calls such ones", x.calls(3, 3, 1), 0);
        e.beyond("one that calls none", x.calls(4, 4, 1), 0);
    }

    private static void answers(Edges e) {
        e.sentence(8, "what = 0 whether f CALLS g, 1 whether both are of one CIRCLE (1, 0; of f and f whether it is IN one).");
        TailTrimmer x = Check.reading("def a()=b().def b()=c().def c()=a().def d()=d();a().def g()=d().");
        int[][] calls = {{0, 1, 0, 0, 0}, {0, 0, 1, 0, 0}, {1, 0, 0, 0, 0}, {1, 0, 0, 1, 0}, {0, 0, 0, 1, 0}};
        for (int f = 0; f < 5; f++) {
            for (int g = 0; g < 5; g++) {
                e.within(f + " CALLS " + g, x.calls(f, g, 0), calls[f][g]);
                boolean one = f < 3 && g < 3 || f == 3 && g == 3;
                e.beyond(f + " and " + g + " are of one CIRCLE", x.calls(f, g, 1), one ? 1 : 0);
            }
        }
    }

    private static void refusedCalls(Edges e) {
        e.sentence(8, "-1 there is no f or g, -2 no such what.");
        TailTrimmer x = Check.reading("def a()=b().def b()=a().");
        e.within("calls(1, 1, 0)", x.calls(1, 1, 0), 0);
        e.within("calls(1, 1, 1)", x.calls(1, 1, 1), 1);
        for (int f : new int[] {-1, 2, 23, 24, 31, 32, Integer.MIN_VALUE, Integer.MAX_VALUE}) {
            for (int what = -1; what <= 2; what++) {
                e.beyond("calls(" + f + ", 0, " + what + ")", x.calls(f, 0, what), -1);
                e.beyond("calls(0, " + f + ", " + what + ")", x.calls(0, f, what), -1);
            }
        }
        for (int what : new int[] {-1, 2, 3, Integer.MIN_VALUE, Integer.MAX_VALUE}) {
            e.beyond("calls(0, 1, " + what + ")", x.calls(0, 1, what), -2);
        }
        TailTrimmer most = Check.reading(functions(true));
        e.within("calls(23, 0, 0) of 24", most.calls(23, 0, 0), 1);
        e.beyond("calls(24, 0, 0) of 24", most.calls(24, 0, 0), -1);
        e.beyond("calls(0, 24, 0) of 24", most.calls(0, 24, 0), -1);
    }

    private static String order(String text, int count) {
        TailTrimmer x = Check.reading(text);
        StringBuilder all = new StringBuilder();
        for (int k = 0; k < count; k++) {
            all.append(k == 0 ? "" : " ").append(x.order(k));
        }
        return all.toString();
    }

    private static void looks(Edges e) {
        e.sentence(9, "functions 0, 1, .. are looked at; a look at one that was not looked at yet: first those that it calls are looked at");
        e.within("no calls", order("def a()=1.def b()=1.def c()=1.", 3), "0 1 2");
        e.within("calls of later ones", order("def a()=b().def b()=c().def c()=1.", 3), "2 1 0");
        e.within("calls of earlier ones", order("def a()=1.def b()=a().def c()=b().", 3), "0 1 2");
        e.beyond("one that was looked at already", order("def a()=c().def b()=c();d().def c()=1.def d()=1.", 4), "2 0 3 1");
        e.beyond("itself", order("def a()=a();b().def b()=1.", 2), "1 0");
        e.beyond("a circle", order("def a()=b().def b()=c().def c()=a();d().def d()=1.", 4), "3 2 1 0");
        StringBuilder down = new StringBuilder("23");
        for (int f = 22; f >= 0; f--) {
            down.append(' ').append(f);
        }
        e.within("a chain of 24", order(functions(false), MOST), down.toString());
        e.beyond("a ring of 24", order(functions(true), MOST), down.toString());
        e.beyond("30 calls of one and then another one", order("def a()=" + "b();".repeat(30) + "c().def c()=1.def b()=1.", 3), "2 1 0");
        TailTrimmer x = Check.reading("def a()=b().def b()=1.def c()=1.");
        Check.lay(x, "def a()=c().def b()=1.def c()=1.");
        x.read();
        e.within("the ORDER of another text", x.order(0) + " " + x.order(1) + " " + x.order(2), "2 0 1");
    }

    private static void looksFromTheLeft(Edges e) {
        e.sentence(9, "(in the order of the text, operands and arguments before what has them, from the left); then it is the next in the ORDER.");
        String rest = "def b(x)=x.def c(x)=x.def d(x)=x.";
        e.within("operands", order("def a()=d(1)+b(1)*c(1)." + rest, 4), "3 1 2 0");
        e.within("if", order("def a()=if c(1) then d(1) else b(1)." + rest, 4), "2 3 1 0");
        e.within("let", order("def a()=let x=d(1) in c(1);b(1)." + rest, 4), "3 2 1 0");
        e.within("arguments", order("def f(x,y,z)=1.def a()=f(d(1),c(1),b(1))." + rest, 5), "0 4 3 2 1");
        e.beyond("a call behind its arguments", order("def a()=b(c(d(1)))." + rest, 4), "3 2 1 0");
        e.beyond("but before what is on its right", order("def a()=b(c(1))-d(1)." + rest, 4), "2 1 3 0");
    }

    private static void refusedOrders(Edges e) {
        e.sentence(9, "The k-th function in the ORDER (from 0). -1 there is none.");
        TailTrimmer x = Check.reading("def a()=b().def b()=1.");
        e.within("order(0)", x.order(0), 1);
        e.within("order(1)", x.order(1), 0);
        for (int k : new int[] {-1, 2, 23, 24, Integer.MIN_VALUE, Integer.MAX_VALUE}) {
            e.beyond("order(" + k + ")", x.order(k), -1);
        }
        TailTrimmer most = Check.reading(functions(false));
        e.within("order(23) of 24", most.order(23), 0);
        e.beyond("order(24) of 24", most.order(24), -1);
        x.feed(0, 0);
        x.read();
        e.beyond("order(0) of none", x.order(0), -1);
    }
}
