/** Promises 13 to 16: argument, run, told, putAt. */
public final class RunTest {
    private static final Check CHECK = new Check();

    public static void main(String[] args) {
        arguments();
        values();
        stepsAndWords();
        overflows();
        divided();
        spent();
        puts();
        tailFrames();
        latestRun();
        refusals();
        CHECK.finish();
    }

    private static void arguments() {
        TailTrimmer x = Check.reading("def f(a,b,c,d,e,g)=a+10*(b+10*(c+10*(d+10*(e+10*g)))).def h(a)=a.");
        for (int i = 0; i < 6; i++) {
            CHECK.due("argument " + i, x.argument(i, i + 1), 0);
        }
        CHECK.due("argument 6", x.argument(6, 1), -2);
        CHECK.due("argument -1", x.argument(-1, 1), -2);
        CHECK.due("argument most", x.argument(Integer.MAX_VALUE, 1), -2);
        CHECK.due("run", x.run(0, 0, 1000, 1000), 1);
        CHECK.due("all six", x.told(0), 654321);
        CHECK.due("what it was", x.argument(0, Integer.MIN_VALUE), 1);
        CHECK.due("run h", x.run(1, 1, 1000, 1000), 1);
        CHECK.due("the first alone", x.told(0), Integer.MIN_VALUE);
        CHECK.due("a run keeps them", x.argument(0, 0), Integer.MIN_VALUE);
        Check.lay(x, "def q(a,b)=b.");
        x.read();
        x.run(0, 0, 1000, 1000);
        CHECK.due("a read keeps them", x.told(0), 2);
    }

    private static void value(String exp, int a, int b, int want) {
        TailTrimmer x = Check.reading("def f(a,b)=" + exp + ".");
        x.argument(0, a);
        x.argument(1, b);
        for (int mode = 0; mode < 8; mode++) {
            x.trim(mode);
            CHECK.due("run of <" + exp + ">", x.run(1, 0, 20000, 20000), 1);
            CHECK.due("value of <" + exp + "> by mode " + mode, x.told(0), want);
        }
    }

    private static void values() {
        int least = Integer.MIN_VALUE;
        int most = Integer.MAX_VALUE;
        value("a+b", most, 1, least);
        value("a-b", least, 1, most);
        value("a*b", 65536, 65536, 0);
        value("a*b", -3, 7, -21);
        value("a/b", -7, 2, -3);
        value("a/b", 7, -2, -3);
        value("a%b", -7, 2, -1);
        value("a%b", 7, -2, 1);
        value("a/b", least, -1, least);
        value("a%b", least, -1, 0);
        value("a<b", least, most, 1);
        value("a<b", 2, 2, 0);
        value("a==b", 2, 2, 1);
        value("a==b", 2, 3, 0);
        value("-a", least, 0, least);
        value("a;b", 2, 3, 3);
        value("if a then 1 else 2", 0, 0, 2);
        value("if a then 1 else 2", -5, 0, 1);
        value("let a=a+1 in let b=a*a in a+b", 2, 0, 12);
        value("put(a)*2", 4, 0, 8);
        value("if a<1 then b else f(a-1,b+a)", 100, 0, 5050);
        value("(let x=a in let y=x*2 in y-x)+(let z=b in z)", 5, 6, 11);
        value("(if a then b else 1)*(if b then a else 1)", 3, 4, 12);
    }

    private static void told(TailTrimmer x, String what, int value, int steps, int words, int puts) {
        CHECK.due(what + " value", x.told(0), value);
        CHECK.due(what + " steps", x.told(1), steps);
        CHECK.due(what + " words", x.told(2), words);
        CHECK.due(what + " puts", x.told(3), puts);
    }

    private static void stepsAndWords() {
        TailTrimmer x = Check.reading("def f(n)=if n==0 then 7 else f(n-1).");
        x.argument(0, 3);
        CHECK.due("calls", x.run(0, 0, 1000, 1000), 1);
        told(x, "calls", 7, 3 * 9 + 6, 4 * 5, 0);
        x.trim(4);
        CHECK.due("loop", x.run(1, 0, 1000, 1000), 1);
        told(x, "loop", 7, 3 * 8 + 6, 5, 0);
        CHECK.due("the source still calls", x.run(0, 0, 1000, 1000), 1);
        told(x, "source", 7, 33, 20, 0);
        x.argument(0, 2000);
        CHECK.due("a long loop", x.run(1, 0, 5, 20000), 1);
        told(x, "long loop", 7, 16006, 5, 0);
        CHECK.due("many frames", x.run(0, 0, 20000, 20000), 1);
        told(x, "many frames", 7, 18006, 10005, 0);
        TailTrimmer deep = Check.reading("def f()=f();1.");
        CHECK.due("6666 frames", deep.run(0, 0, 20000, 20000), 2);
        told(deep, "frames of 3 words", 0, 6666, 19998, 0);
    }

    private static void overflows() {
        TailTrimmer x = Check.reading("def f(n)=if n==0 then 7 else f(n-1).def g()=put(1);f(1).");
        CHECK.due("no room for the first", x.run(0, 0, 4, 100), 2);
        told(x, "first", 0, 0, 0, 0);
        CHECK.due("none at all", x.run(0, 0, 0, 0), 2);
        told(x, "none", 0, 0, 0, 0);
        CHECK.due("just room", x.run(0, 0, 5, 100), 1);
        told(x, "just room", 7, 6, 5, 0);
        x.argument(0, 1);
        CHECK.due("no room for the second", x.run(0, 0, 9, 100), 2);
        told(x, "second", 0, 8, 5, 0);
        CHECK.due("room for both", x.run(0, 0, 10, 100), 1);
        told(x, "both", 7, 15, 10, 0);
        CHECK.due("g and no room", x.run(0, 1, 7, 100), 2);
        told(x, "g", 0, 5, 3, 1);
        CHECK.due("what was put", x.putAt(0), 1);
    }

    private static void divided() {
        TailTrimmer x = Check.reading("def f(a)=put(5);1/a.def g(a)=1%a.");
        CHECK.due("/ by 0", x.run(0, 0, 100, 100), 3);
        told(x, "/", 0, 6, 5, 1);
        CHECK.due("% by 0", x.run(0, 1, 100, 100), 3);
        told(x, "%", 0, 3, 5, 0);
        CHECK.due("no puts of the run before", x.putAt(0), 0);
        x.trim(7);
        CHECK.due("/ by 0 in the output", x.run(1, 0, 100, 100), 3);
    }

    private static void spent() {
        TailTrimmer x = Check.reading("def f(n)=if n==0 then 7 else f(n-1).");
        CHECK.due("no steps", x.run(0, 0, 100, 0), 4);
        told(x, "no steps", 0, 0, 5, 0);
        CHECK.due("one too few", x.run(0, 0, 100, 5), 4);
        told(x, "one too few", 0, 5, 5, 0);
        CHECK.due("just enough", x.run(0, 0, 100, 6), 1);
        told(x, "just enough", 7, 6, 5, 0);
        x.argument(0, -1);
        x.trim(4);
        CHECK.due("for ever", x.run(1, 0, 100, 20000), 4);
        told(x, "for ever", 0, 20000, 5, 0);
        CHECK.due("the step that overflows comes before the one that is not made", x.run(0, 0, 9, 8), 2);
        CHECK.due("but not when it is not made", x.run(0, 0, 9, 7), 4);
        told(x, "not made", 0, 7, 5, 0);
    }

    private static void puts() {
        TailTrimmer x = Check.reading("def f(n)=put(n*n);if n==1 then put(0) else f(n-1).");
        x.trim(4);
        x.argument(0, 199);
        CHECK.due("200", x.run(1, 0, 100, 20000), 1);
        CHECK.due("are put", x.told(3), 200);
        for (int i = 0; i < 199; i++) {
            CHECK.due("put " + i, x.putAt(i), (199 - i) * (199 - i));
        }
        CHECK.due("the last", x.putAt(199), 0);
        CHECK.due("behind it", x.putAt(200), 0);
        CHECK.due("before the first", x.putAt(-1), 0);
        CHECK.due("most", x.putAt(Integer.MAX_VALUE), 0);
        x.argument(0, 200);
        CHECK.due("201", x.run(1, 0, 100, 20000), 5);
        CHECK.due("only 200 are put", x.told(3), 200);
        CHECK.due("no value", x.told(0), 0);
        // 199 rounds of 13 steps; then LOAD LOAD * PUT DROP LOAD CONST == ELSE CONST, and the PUT too many.
        CHECK.due("steps", x.told(1), 199 * 13 + 11);
        CHECK.due("the 200th", x.putAt(199), 1);
        TailTrimmer order = Check.reading("def f(a)=put(1)+put(2)*put(a);g(put(4),put(5)).def g(x,y)=put(x+y);put(x-y).");
        order.argument(0, 3);
        CHECK.due("from the left to the right", order.run(0, 0, 100, 100), 1);
        int[] want = {1, 2, 3, 4, 5, 9, -1, 0};
        for (int i = 0; i < want.length; i++) {
            CHECK.due("put " + i, order.putAt(i), want[i]);
        }
        CHECK.due("value", order.told(0), -1);
    }

    private static void tailFrames() {
        TailTrimmer x = Check.reading("def f(a)=if a then k(a) else h().def h()=4.def k(x)=let y=x in let z=y in y+z.");
        x.trim(4);
        CHECK.due("FRAME of f", x.function(1, 0, 4), 4);
        CHECK.due("FRAME of k", x.function(1, 2, 4), 7);
        CHECK.due("to a smaller one", x.run(1, 0, 4, 100), 1);
        told(x, "smaller", 4, 5, 4, 0);
        x.argument(0, 6);
        CHECK.due("to a larger one without room", x.run(1, 0, 6, 100), 2);
        told(x, "larger without room", 0, 4, 4, 0);
        CHECK.due("to a larger one", x.run(1, 0, 7, 100), 1);
        told(x, "larger", 12, 4 + 8, 7, 0);
        TailTrimmer back = Check.reading("def m(a)=100+f(a)*2.def f(a)=if a then g(a-1,a,a*2) else a+1.def g(x,y,z)=let w=x+y*z in if w<9 then f(x) else w.");
        back.trim(4);
        for (int a = 0; a < 6; a++) {
            back.argument(0, a);
            back.run(0, 0, 1000, 1000);
            int want = back.told(0);
            CHECK.due("run " + a, back.run(1, 0, back.function(1, 0, 6), 1000), 1);
            CHECK.due("goes back to the caller " + a, back.told(0), want);
        }
        CHECK.due("a value by hand", back.told(0), 100 + (4 + 5 * 10) * 2);
    }

    private static void latestRun() {
        TailTrimmer x = Check.reading("def f(a)=put(a).");
        x.argument(0, 9);
        x.run(0, 0, 100, 100);
        told(x, "run", 9, 3, 4, 1);
        CHECK.due("refused run", x.run(0, 1, 100, 100), -1);
        CHECK.due("refused words", x.run(0, 0, 20001, 100), -2);
        told(x, "refused ones change nothing", 9, 3, 4, 1);
        x.trim(7);
        Check.lay(x, "def g()=1.");
        x.read();
        told(x, "a read changes nothing of it", 9, 3, 4, 1);
        CHECK.due("nor what was put", x.putAt(0), 9);
        x.run(0, 0, 1, 1);
        told(x, "the latest counts", 0, 0, 0, 0);
        CHECK.due("also of what was put", x.putAt(0), 0);
    }

    private static void refusals() {
        TailTrimmer x = Check.reading("def f()=1.");
        CHECK.due("which 2", x.run(2, 0, 1, 1), -1);
        CHECK.due("which -1", x.run(-1, 0, 1, 1), -1);
        CHECK.due("f 1", x.run(0, 1, 1, 1), -1);
        CHECK.due("f -1", x.run(0, -1, 1, 1), -1);
        CHECK.due("words -1", x.run(0, 0, -1, 1), -2);
        CHECK.due("words 20001", x.run(0, 0, 20001, 1), -2);
        CHECK.due("steps -1", x.run(0, 0, 1, -1), -2);
        CHECK.due("steps 20001", x.run(0, 0, 1, 20001), -2);
        CHECK.due("-1 before -2", x.run(0, 1, -1, -1), -1);
        CHECK.due("the edges are within", x.run(0, 0, 20000, 20000), 1);
        CHECK.due("told -1", x.told(-1), -2);
        CHECK.due("told 4", x.told(4), -2);
    }
}
