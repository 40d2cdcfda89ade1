/** Promises 13 to 16: arguments, runs and their five HALTS, and what is told of them. */
public final class RunEdgeTest {
    private static final int LEAST = Integer.MIN_VALUE;
    private static final int GREATEST = Integer.MAX_VALUE;
    private static final int TAILS = 4;
    private static final int MOST_OF_ALL = 20000;

    public static void main(String[] args) {
        look(new Edges()).finish();
    }

    static Edges look(Edges e) {
        return e.all(
            RunEdgeTest::arguments, RunEdgeTest::wrap, RunEdgeTest::leastByMinusOne, RunEdgeTest::comparisonsAndRests,
            RunEdgeTest::ifs, RunEdgeTest::sequences, RunEdgeTest::puts, RunEdgeTest::fromTheLeft, RunEdgeTest::lets,
            RunEdgeTest::parameters, RunEdgeTest::givenArguments, RunEdgeTest::firstFrame, RunEdgeTest::steps,
            RunEdgeTest::framesComeAndGo, RunEdgeTest::done, RunEdgeTest::overflows, RunEdgeTest::divided, RunEdgeTest::spent,
            RunEdgeTest::putTooMuch, RunEdgeTest::refusedRuns, RunEdgeTest::latestRun, RunEdgeTest::values,
            RunEdgeTest::stepsWordsPuts, RunEdgeTest::refusedTold, RunEdgeTest::putValues);
    }

    private static void arguments(Edges e) {
        e.sentence(13, "Argument i becomes v: what it was. -2 i is not 0 .. 5.");
        TailTrimmer x = new TailTrimmer();
        for (int i = 0; i <= 5; i++) {
            e.within("argument(" + i + ", least)", x.argument(i, LEAST), 0);
            e.within("argument(" + i + ", greatest)", x.argument(i, GREATEST), LEAST);
            e.within("argument(" + i + ", " + i + ")", x.argument(i, i), GREATEST);
        }
        for (int i : new int[] {-1, 6, 7, LEAST, GREATEST}) {
            e.beyond("argument(" + i + ", 9)", x.argument(i, 9), -2);
        }
        for (int i = 0; i <= 5; i++) {
            e.beyond("argument " + i + " stays", x.argument(i, -2), i);
        }
        e.within("an argument that was -2", x.argument(5, 0), -2);
    }

    /** The value by what was read and by the output of mode 7, which are to be the same. */
    private static String value(String exp, int a, int b) {
        TailTrimmer x = Check.reading("def f(a,b)=" + exp + ".def g(a,b)=f(a,b).");
        x.argument(0, a);
        x.argument(1, b);
        x.trim(7);
        int halt = x.run(0, 1, 999, 999);
        int value = x.told(0);
        boolean alike = x.run(1, 1, 999, 999) == halt && x.told(0) == value;
        return alike && halt == 1 ? Integer.toString(value) : "halt " + halt + (alike ? "" : " and not alike");
    }

    private static void within(Edges e, String exp, int a, int b, int want) {
        e.within(exp + " of " + a + ", " + b, value(exp, a, b), Integer.toString(want));
    }

    private static void beyond(Edges e, String exp, int a, int b, int want) {
        e.beyond(exp + " of " + a + ", " + b, value(exp, a, b), Integer.toString(want));
    }

    private static void wrap(Edges e) {
        e.sentence(14, "VALUES are 32 bits with sign, and wrap.");
        within(e, "a+b", GREATEST - 1, 1, GREATEST);
        beyond(e, "a+b", GREATEST, 1, LEAST);
        within(e, "a+b", LEAST + 1, -1, LEAST);
        beyond(e, "a+b", LEAST, -1, GREATEST);
        within(e, "a-b", LEAST + 1, 1, LEAST);
        beyond(e, "a-b", LEAST, 1, GREATEST);
        within(e, "a*b", 46340, 46340, 2147395600);
        beyond(e, "a*b", 46341, 46341, -2147479015);
        beyond(e, "a*b", 65536, 65536, 0);
        within(e, "-a", GREATEST, 0, -GREATEST);
        within(e, "-a", LEAST + 1, 0, GREATEST);
        beyond(e, "-a", LEAST, 0, LEAST);
    }

    private static void leastByMinusOne(Edges e) {
        e.sentence(14, "(-2147483648 / -1 wraps; its rest is 0.)");
        beyond(e, "a/b", LEAST, -1, LEAST);
        beyond(e, "a%b", LEAST, -1, 0);
        within(e, "a/b", LEAST + 1, -1, GREATEST);
        within(e, "a%b", LEAST + 1, -1, 0);
        within(e, "a/b", LEAST, 1, LEAST);
        within(e, "a/b", LEAST, -2, 1073741824);
        within(e, "a%b", LEAST, -2, 0);
        within(e, "a%b", LEAST, GREATEST, -1);
    }

    private static void comparisonsAndRests(Edges e) {
        e.sentence(14, "< and == are 1 or 0; / towards 0, % its rest;");
        within(e, "a<b", 1, 2, 1);
        beyond(e, "a<b", 2, 2, 0);
        beyond(e, "a<b", 3, 2, 0);
        within(e, "a<b", LEAST, GREATEST, 1);
        beyond(e, "a<b", GREATEST, LEAST, 0);
        within(e, "a<b", -1, 0, 1);
        within(e, "a==b", 2, 2, 1);
        beyond(e, "a==b", 2, 3, 0);
        beyond(e, "a==b", LEAST, 0, 0);
        int[][] rests = {{7, 2, 3, 1}, {-7, 2, -3, -1}, {7, -2, -3, 1}, {-7, -2, 3, -1}, {6, 2, 3, 0}, {-6, 2, -3, 0}, {1, 2, 0, 1},
            {-1, 2, 0, -1}, {0, 5, 0, 0}, {5, 1, 5, 0}, {5, -1, -5, 0}};
        for (int[] one : rests) {
            if (one[3] == 0) {
                within(e, "a/b", one[0], one[1], one[2]);
                within(e, "a%b", one[0], one[1], one[3]);
            } else {
                beyond(e, "a/b", one[0], one[1], one[2]);
                beyond(e, "a%b", one[0], one[1], one[3]);
            }
        }
    }

    private static void ifs(Edges e) {
        e.sentence(14, "if takes the else when its first is 0;");
        beyond(e, "if a then 5 else 6", 0, 0, 6);
        within(e, "if a then 5 else 6", 1, 0, 5);
        within(e, "if a then 5 else 6", -1, 0, 5);
        within(e, "if a then 5 else 6", LEAST, 0, 5);
        within(e, "if a then 5 else 6", 65536, 0, 5);
        TailTrimmer x = Check.reading("def f(a)=if a then put(5) else put(6).");
        x.run(0, 0, 99, 99);
        e.beyond("one alone is found", x.told(3) * 10 + x.putAt(0), 16);
        x.argument(0, 1);
        x.run(0, 0, 99, 99);
        e.within("the other one alone", x.told(3) * 10 + x.putAt(0), 15);
    }

    private static void sequences(Edges e) {
        e.sentence(14, "a ; b is b, when a was found;");
        within(e, "a;b", 5, 6, 6);
        within(e, "10*(put(a);b)+b", 5, 6, 66);
        within(e, "10-(put(a);put(b);2)", 5, 6, 8);
        TailTrimmer x = Check.reading("def f(a)=put(7);put(8);9.def g(a)=1/a;9.");
        e.within("run", x.run(0, 0, 99, 99), 1);
        e.within("value", x.told(0), 9);
        e.within("what was found first", x.putAt(0), 7);
        e.within("and then", x.putAt(1), 8);
        e.beyond("when a cannot be found", x.run(0, 1, 99, 99), 3);
        e.beyond("there is no value", x.told(0), 0);
    }

    private static void puts(Edges e) {
        e.sentence(14, "put(a) is a, and a is PUT.");
        within(e, "put(a)+1", 5, 0, 6);
        TailTrimmer x = Check.reading("def f(a)=put(a).def g(a)=a.");
        for (int v : new int[] {0, -1, LEAST, GREATEST}) {
            x.argument(0, v);
            e.within("run", x.run(0, 0, 99, 99), 1);
            e.within("value", x.told(0), v);
            e.within("how many were PUT", x.told(3), 1);
            e.within("what was PUT", x.putAt(0), v);
        }
        x.run(0, 1, 99, 99);
        e.beyond("without put", x.told(3), 0);
        e.beyond("nothing is PUT", x.putAt(0), 0);
    }

    private static String allPut(TailTrimmer x) {
        StringBuilder all = new StringBuilder();
        for (int i = 0; i < x.told(3); i++) {
            all.append(i == 0 ? "" : " ").append(x.putAt(i));
        }
        return all.toString();
    }

    private static void fromTheLeft(Edges e) {
        e.sentence(14, "Operands and arguments are found from the left to the right.");
        String text = "def f()=put(1)-put(2)*put(3)<put(4);h(put(5),put(6)+put(7),put(8)).def h(x,y,z)=put(x-y-z).";
        for (int mode = 0; mode < 8; mode++) {
            TailTrimmer x = Check.reading(text);
            x.trim(mode);
            x.run(1, 0, 99, 99);
            e.within("PUT by mode " + mode, allPut(x), "1 2 3 4 5 6 7 8 -16");
        }
        TailTrimmer x = Check.reading("def f()=h(put(1),1/0,put(2)).def h(x,y,z)=put(9).");
        x.run(0, 0, 99, 99);
        e.beyond("what is right of a HALT is not found", allPut(x), "1");
    }

    private static void lets(Edges e) {
        e.sentence(14, "let x = a in b: b, x being a in it (another x of that name is hidden).");
        within(e, "let x=a in x+b", 5, 6, 11);
        within(e, "let a=b in a", 5, 6, 6);
        within(e, "let a=a+1 in a", 5, 6, 6);
        beyond(e, "(let a=b in a)+a", 5, 6, 11);
        beyond(e, "let x=let x=a in x*2 in x+1", 5, 6, 11);
        beyond(e, "let x=a in (let x=b in x)*10+x", 5, 6, 65);
        within(e, "let x=a in let y=b in let z=x*y in z-x-y", 5, 6, 19);
        within(e, "(let x=a in x)*10+(let y=b in y)", 5, 6, 56);
    }

    private static void parameters(Edges e) {
        e.sentence(14, "A function's value is that of its exp with its parameters as told.");
        String text = "def f(a,b)=g(b,a)*10+a.def g(p,q)=p*1000+q*100+h().def h()=7.";
        TailTrimmer x = Check.reading(text);
        x.argument(0, 1);
        x.argument(1, 2);
        for (int mode = 0; mode < 8; mode++) {
            x.trim(mode);
            e.within("run by mode " + mode, x.run(1, 0, 99, 99), 1);
            e.within("value by mode " + mode, x.told(0), 21071);
        }
        x.run(0, 2, 99, 99);
        e.beyond("without parameters", x.told(0), 7);
        TailTrimmer own = Check.reading("def f(a,b)=if a then f(a-1,a)+b else b.");
        own.argument(0, 3);
        own.argument(1, 100);
        own.run(0, 0, 999, 999);
        e.beyond("each call has its own", own.told(0), 100 + 3 + 2 + 1);
    }

    private static void givenArguments(Edges e) {
        e.sentence(14, "A RUN of a function with arguments 0 .. as many as it has parameters: its HALT.");
        TailTrimmer x = Check.reading("def z()=4.def o(a)=a.def s(a,b,c,d,e,g)=a+10*(b+10*(c+10*(d+10*(e+10*g)))).def l(a)=let b=7 in a*10+b.");
        for (int i = 0; i < 6; i++) {
            x.argument(i, i + 1);
        }
        int[] want = {4, 1, 654321, 17};
        for (int f = 0; f < 4; f++) {
            e.within("run of function " + f, x.run(0, f, 99, 99), 1);
            e.within("value of function " + f, x.told(0), want[f]);
        }
        x.argument(5, 9);
        x.run(0, 2, 99, 99);
        e.beyond("another argument 5", x.told(0), 954321);
        x.run(0, 1, 99, 99);
        e.beyond("is none of a function with one", x.told(0), 1);
        e.beyond("a run keeps the arguments", x.argument(0, 0), 1);
    }

    private static void told(Edges e, boolean within, String what, TailTrimmer x, String want) {
        String got = x.told(0) + " " + x.told(1) + " " + x.told(2) + " " + x.told(3);
        if (within) {
            e.within("value, steps, words, PUT " + what, got, want);
        } else {
            e.beyond("value, steps, words, PUT " + what, got, want);
        }
    }

    private static void firstFrame(Edges e) {
        e.sentence(14, "RUN: a function with its arguments has a FRAME.");
        TailTrimmer x = Check.reading("def f(a,b)=a+b.def g()=g().");
        x.trim(TAILS);
        e.within("no step is made", x.run(0, 0, 6, 0), 4);
        told(e, true, "with its FRAME alone", x, "0 0 6 0");
        e.within("the least FRAME", x.run(1, 1, 2, 0), 4);
        told(e, true, "with the least FRAME", x, "0 0 2 0");
        e.beyond("no room for it", x.run(0, 0, 5, 0), 2);
        told(e, false, "without a FRAME", x, "0 0 0 0");
        e.beyond("no room for the least", x.run(1, 1, 1, 0), 2);
    }

    private static void steps(Edges e) {
        e.sentence(14, "Each instruction is a STEP; steps are counted when they begin.");
        TailTrimmer x = Check.reading("def f(a)=1.def g(a)=let b=-a in put(b);if b then 5 else f(b)+2.def h(a)=1;1/a.");
        e.within("CONST RETURN", x.run(0, 0, 99, 99), 1);
        told(e, true, "of CONST RETURN", x, "1 2 4 0");
        x.run(0, 1, 99, 99);
        // LOAD - STORE, LOAD PUT DROP, LOAD ELSE, LOAD CALL (CONST RETURN) CONST + RETURN.
        told(e, true, "of all kinds", x, "3 15 10 1");
        x.argument(0, 1);
        x.run(0, 1, 99, 99);
        told(e, true, "of the other way", x, "5 10 6 1");
        x.argument(0, 0);
        x.run(0, 2, 99, 99);
        told(e, false, "when the last one halts", x, "0 5 5 0");
        TailTrimmer jump = Check.reading("def f(a)=-(if a then 1 else 2).");
        jump.run(0, 0, 99, 99);
        e.within("steps past the JUMP", jump.told(1), 5);
        jump.argument(0, 1);
        jump.run(0, 0, 99, 99);
        e.beyond("steps with the JUMP", jump.told(1), 6);
    }

    private static void framesComeAndGo(Edges e) {
        e.sentence(14, "CALL makes a FRAME more; RETURN takes it away; TAIL takes its own away and makes the other one; AGAIN goes on at 0"
            + " with the arguments as parameters.");
        TailTrimmer x = Check.reading("def f()=g(1)+g(2)+g(3).def g(a)=a.def h(n)=if n then h(n-1) else 7.def k(a,b)=let c=a in m(c).def m(a)=a+(a+a).");
        x.run(0, 0, 99, 99);
        told(e, true, "of three CALLS, one behind another", x, "6 15 8 0");
        x.argument(0, 3);
        x.run(0, 2, 99, 99);
        told(e, true, "of CALLS in one another", x, "7 25 20 0");
        x.trim(TAILS);
        x.run(1, 2, 99, 99);
        told(e, false, "of AGAIN", x, "7 22 5 0");
        x.run(0, 3, 99, 99);
        told(e, true, "of a CALL", x, "9 11 12 0");
        x.run(1, 3, 99, 99);
        told(e, false, "of a TAIL", x, "9 10 6 0");
        TailTrimmer swap = Check.reading("def f(n,a,b)=if n then f(n-1,b,a+b) else a*1000+b.");
        swap.trim(TAILS);
        swap.argument(0, 10);
        swap.argument(2, 1);
        swap.run(1, 0, 99, 999);
        e.beyond("AGAIN with all arguments at once", swap.told(0), 55089);
        TailTrimmer back = Check.reading("def f(a)=1000+g(a)*2.def g(a)=h(a,a+1,a+2).def h(a,b,c)=let d=k(b) in d+a*c.def k(a)=a*10.");
        back.trim(TAILS);
        back.argument(0, 3);
        back.run(1, 0, 99, 99);
        e.beyond("RETURN behind a TAIL goes to the one that made the CALL", back.told(0), 1000 + (40 + 15) * 2);
    }

    private static void done(Edges e) {
        e.sentence(14, "HALTS: 1 it is done;");
        TailTrimmer x = Check.reading("def f()=1.def g()=1+f().");
        e.within("run(0, 0, 3, 2)", x.run(0, 0, 3, 2), 1);
        e.within("run(0, 1, 7, 6)", x.run(0, 1, 7, 6), 1);
        told(e, true, "of it", x, "2 6 7 0");
        e.beyond("the RETURN of the function that was called is not the end", x.run(0, 1, 7, 4), 4);
        e.beyond("a word less", x.run(0, 0, 2, 2), 2);
        e.beyond("a step less", x.run(0, 0, 3, 1), 4);
    }

    private static void overflows(Edges e) {
        e.sentence(14, "2 OVERFLOW: FRAMES would have more words than may be (also of the first one; that instruction is a step);");
        TailTrimmer x = Check.reading("def f(n)=if n then 1+f(n-1) else 7.def g(a,b)=e().def e()=e().def t(a)=u(a).def u(p)=let q=p in q+q.");
        e.within("room for the first", x.run(0, 0, 6, 99), 1);
        told(e, true, "when there is just room", x, "7 4 6 0");
        e.beyond("no room for the first", x.run(0, 0, 5, 99), 2);
        told(e, false, "when there is no room for the first", x, "0 0 0 0");
        e.beyond("no words at all", x.run(0, 0, 0, 0), 2);
        x.argument(0, 1);
        e.within("room for the second", x.run(0, 0, 12, 99), 1);
        told(e, true, "when there is just room for two", x, "8 13 12 0");
        e.beyond("no room for the second", x.run(0, 0, 11, 99), 2);
        told(e, false, "when there is no room for the second", x, "0 7 6 0");
        // FRAMES of 5 and of 3 words: 5 + 6665 * 3 = 20000.
        e.beyond("20000 words", x.run(0, 1, MOST_OF_ALL, MOST_OF_ALL), 2);
        told(e, false, "of 20000 words", x, "0 6666 20000 0");
        e.beyond("19999 words", x.run(0, 1, MOST_OF_ALL - 1, MOST_OF_ALL), 2);
        told(e, false, "of 19999 words", x, "0 6665 19997 0");
        // 1250 FRAMES of 16 words; the last one uses all its TEMPS.
        TailTrimmer deep = Check.reading("def f(n,a,b,c,d,g)=if n then f(n-1,a,b,c,d,g) else a+(b+(c+(d+(g+(n+(a+b)))))).");
        for (int i = 0; i < 6; i++) {
            deep.argument(i, i == 0 ? 1249 : i);
        }
        e.within("20000 words are what it needs", deep.run(0, 0, MOST_OF_ALL, MOST_OF_ALL), 1);
        told(e, true, "of it", deep, "18 15006 20000 0");
        e.beyond("one less", deep.run(0, 0, MOST_OF_ALL - 1, MOST_OF_ALL), 2);
        told(e, false, "of one less", deep, "0 13739 19984 0");
        x.trim(TAILS);
        e.within("room for the one in its place", x.run(1, 3, 6, 99), 1);
        told(e, true, "of a TAIL with just room", x, "2 8 6 0");
        e.beyond("no room for the one in its place", x.run(1, 3, 5, 99), 2);
        told(e, false, "of a TAIL without room", x, "0 2 4 0");
        e.within("AGAIN needs no more", x.run(1, 2, 2, 77), 4);
    }

    private static void divided(Edges e) {
        e.sentence(14, "3 DIVIDED: / or % by 0;");
        TailTrimmer x = Check.reading("def f(a,b)=put(8);a/b.def g(a,b)=a%b.");
        int[] by = {1, -1, LEAST, GREATEST};
        for (int b : by) {
            x.argument(1, b);
            e.within("/ by " + b, x.run(0, 0, 99, 99), 1);
            e.within("% by " + b, x.run(0, 1, 99, 99), 1);
        }
        x.argument(1, 0);
        for (int a : new int[] {0, 1, -1, LEAST, GREATEST}) {
            x.argument(0, a);
            e.beyond(a + " / 0", x.run(0, 0, 99, 99), 3);
            told(e, false, "of / by 0", x, "0 6 6 1");
            e.beyond("what was PUT", x.putAt(0), 8);
            e.beyond(a + " % 0", x.run(0, 1, 99, 99), 3);
            told(e, false, "of % by 0", x, "0 3 6 0");
        }
        x.trim(7);
        e.beyond("/ by 0 of the output", x.run(1, 0, 99, 99), 3);
        TailTrimmer folded = Check.reading("def f()=7/(1-1).");
        folded.trim(7);
        e.beyond("what FOLD has left", folded.run(1, 0, 99, 99), 3);
    }

    private static void spent(Edges e) {
        e.sentence(14, "4 SPENT: one step more than may be made would begin;");
        // Of a round: LOAD ELSE LOAD CONST - AGAIN; then LOAD ELSE, CONST DROP CONST DROP CONST RETURN.
        TailTrimmer x = Check.reading("def f(n)=if n then f(n-1) else 7;7;7.def g()=g().");
        x.trim(TAILS);
        e.within("as many steps as it needs", x.run(1, 0, 99, 8), 1);
        e.beyond("one step less", x.run(1, 0, 99, 7), 4);
        told(e, false, "with one step less", x, "0 7 5 0");
        e.beyond("no steps", x.run(1, 0, 99, 0), 4);
        told(e, false, "with no steps", x, "0 0 5 0");
        e.beyond("one step", x.run(1, 0, 99, 1), 4);
        told(e, false, "with one step", x, "0 1 5 0");
        x.argument(0, 3332);
        e.within("20000 steps", x.run(1, 0, 99, MOST_OF_ALL), 1);
        told(e, true, "of 20000 steps", x, "7 20000 5 0");
        e.beyond("19999 of them", x.run(1, 0, 99, MOST_OF_ALL - 1), 4);
        x.argument(0, 3333);
        e.beyond("more than 20000", x.run(1, 0, 99, MOST_OF_ALL), 4);
        told(e, false, "of more than 20000", x, "0 20000 5 0");
        e.beyond("for ever", x.run(1, 1, 99, MOST_OF_ALL), 4);
        e.within("OVERFLOW by the last step that may be made", x.run(0, 1, 5, 1), 2);
        e.beyond("SPENT before it", x.run(0, 1, 5, 0), 4);
        TailTrimmer zero = Check.reading("def f()=1/0.");
        e.within("DIVIDED by the last step that may be made", zero.run(0, 0, 99, 3), 3);
        e.beyond("SPENT before it", zero.run(0, 0, 99, 2), 4);
    }

    private static void putTooMuch(Edges e) {
        e.sentence(14, "5 one more than 200 would be PUT (it is not; that instruction is a step).");
        TailTrimmer x = Check.reading("def f(n)=put(n);if n==1 then 9 else f(n-1).");
        x.trim(TAILS);
        x.argument(0, 199);
        e.within("199 are PUT", x.run(1, 0, 99, MOST_OF_ALL), 1);
        x.argument(0, 200);
        e.within("200 are PUT", x.run(1, 0, 99, MOST_OF_ALL), 1);
        // 11 steps a round; the last has LOAD PUT DROP LOAD CONST == ELSE CONST RETURN.
        told(e, true, "of 200", x, "9 2198 5 200");
        e.within("the last", x.putAt(199), 1);
        x.argument(0, 201);
        e.beyond("201 would be PUT", x.run(1, 0, 99, MOST_OF_ALL), 5);
        told(e, false, "of 201", x, "0 2202 5 200");
        e.beyond("the 200th", x.putAt(199), 2);
        e.beyond("the 201st is not", x.putAt(200), 0);
        e.beyond("that step when it is the last that may be made", x.run(1, 0, 99, 2202), 5);
        e.within("SPENT before it", x.run(1, 0, 99, 2201), 4);
        told(e, true, "before it", x, "0 2201 5 200");
    }

    private static void refusedRuns(Edges e) {
        e.sentence(14, "-1 no such which, or function, -2 words are not 0 .. 20000, or steps not 0 .. 20000.");
        TailTrimmer x = Check.reading("def f()=7.");
        e.within("run(0, 0, 20000, 20000)", x.run(0, 0, MOST_OF_ALL, MOST_OF_ALL), 1);
        e.within("run(1, 0, 20000, 0)", x.run(1, 0, MOST_OF_ALL, 0), 4);
        e.within("run(1, 0, 0, 20000)", x.run(1, 0, 0, MOST_OF_ALL), 2);
        for (int wrong : new int[] {-1, 20001, LEAST, GREATEST}) {
            e.beyond("run(0, 0, " + wrong + ", 9)", x.run(0, 0, wrong, 9), -2);
            e.beyond("run(1, 0, 9, " + wrong + ")", x.run(1, 0, 9, wrong), -2);
            e.beyond("run(0, 1, " + wrong + ", 9)", x.run(0, 1, wrong, 9), -1);
            e.beyond("run(2, 0, 9, " + wrong + ")", x.run(2, 0, 9, wrong), -1);
        }
        for (int f : new int[] {-1, 1, 24, LEAST, GREATEST}) {
            e.beyond("run(0, " + f + ", 9, 9)", x.run(0, f, 9, 9), -1);
            e.beyond("run(1, " + f + ", 9, 9)", x.run(1, f, 9, 9), -1);
        }
        for (int which : new int[] {-1, 2, LEAST, GREATEST}) {
            e.beyond("run(" + which + ", 0, 9, 9)", x.run(which, 0, 9, 9), -1);
        }
    }

    private static void latestRun(Edges e) {
        e.sentence(15, "Of the latest run() (0 before):");
        TailTrimmer x = Check.reading("def f()=put(7)+0.def g()=1.");
        told(e, true, "before", x, "0 0 0 0");
        x.run(0, 0, 99, 99);
        told(e, false, "of the latest", x, "7 5 4 1");
        x.run(0, 1, 99, 99);
        told(e, false, "of a later one", x, "1 2 3 0");
        x.run(0, 0, 99, 99);
        x.run(0, 2, 99, 99);
        x.run(0, 0, 20001, 99);
        told(e, false, "when others were refused", x, "7 5 4 1");
        x.trim(7);
        x.feed(0, 0);
        x.read();
        told(e, false, "when its function has gone", x, "7 5 4 1");
    }

    private static void values(Edges e) {
        e.sentence(15, "what = 0 its value (0 when it was not done),");
        TailTrimmer x = Check.reading("def f(a)=a.def g(a)=7/(a-a).def h(a)=put(5);h(a).");
        for (int v : new int[] {0, 1, -1, -2, LEAST, GREATEST}) {
            x.argument(0, v);
            x.run(0, 0, 99, 99);
            e.within("value " + v, x.told(0), v);
        }
        x.argument(0, 8);
        int[][] halts = {{0, 3, 99, 2}, {0, 99, 1, 4}, {1, 99, 99, 3}, {2, 99, 9999, 2}};
        for (int[] one : halts) {
            x.run(0, 0, 99, 99);
            e.beyond("HALT", x.run(0, one[0], one[1], one[2]), one[3]);
            e.beyond("value of HALT " + one[3], x.told(0), 0);
        }
        x.trim(TAILS);
        e.beyond("HALT", x.run(1, 2, 99, 9999), 5);
        e.beyond("value of HALT 5", x.told(0), 0);
    }

    private static void stepsWordsPuts(Edges e) {
        e.sentence(15, "1 steps, 2 the most words that FRAMES had at a time, 3 how many were PUT.");
        TailTrimmer x = Check.reading("def f(a)=g(a)+a.def g(p)=put(p)+(p+p).def h()=g(1)+k().def k()=1.");
        x.run(0, 0, 99, 99);
        told(e, true, "of a run", x, "0 12 11 1");
        x.run(0, 1, 99, 99);
        told(e, true, "of a run of one FRAME", x, "0 7 6 1");
        x.run(0, 2, 99, 99);
        told(e, true, "when a smaller FRAME comes behind a larger one", x, "4 14 10 1");
        x.run(0, 0, 11, 99);
        e.within("the most words are what it needs", x.told(2), 11);
        x.run(0, 0, 10, 99);
        told(e, false, "of OVERFLOW", x, "0 2 5 0");
        x.run(0, 0, 4, 99);
        told(e, false, "without a FRAME", x, "0 0 0 0");
        x.run(0, 0, 99, 4);
        told(e, false, "of SPENT", x, "0 4 11 1");
    }

    private static void refusedTold(Edges e) {
        e.sentence(15, "-2 no such what.");
        TailTrimmer x = Check.reading("def f()=7.");
        x.run(0, 0, 99, 99);
        e.within("told(0)", x.told(0), 7);
        e.within("told(3)", x.told(3), 0);
        for (int what : new int[] {-1, 4, 5, LEAST, GREATEST}) {
            e.beyond("told(" + what + ")", x.told(what), -2);
            e.beyond("told(" + what + ") before", new TailTrimmer().told(what), -2);
        }
    }

    private static void putValues(Edges e) {
        e.sentence(16, "The i-th value (0 the first) that was PUT by the latest run(); 0 when there is none.");
        TailTrimmer x = Check.reading("def f(n)=put(n);if n==1 then 9 else f(n-1).def g(n)=put(-5).def h(n)=1.");
        e.beyond("putAt(0) before", x.putAt(0), 0);
        x.trim(TAILS);
        x.argument(0, 200);
        x.run(1, 0, 99, MOST_OF_ALL);
        for (int i : new int[] {0, 1, 100, 198, 199}) {
            e.within("putAt(" + i + ")", x.putAt(i), 200 - i);
        }
        for (int i : new int[] {-1, 200, 201, LEAST, GREATEST}) {
            e.beyond("putAt(" + i + ")", x.putAt(i), 0);
        }
        x.run(1, 1, 99, 99);
        e.within("putAt(0) of the latest", x.putAt(0), -5);
        e.beyond("putAt(1) of the latest", x.putAt(1), 0);
        x.run(1, 3, 99, 99);
        e.within("a refused run() changes nothing", x.putAt(0), -5);
        x.run(1, 2, 99, 99);
        e.beyond("putAt(0) when nothing was PUT", x.putAt(0), 0);
    }
}
