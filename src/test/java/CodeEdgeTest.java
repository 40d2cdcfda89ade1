/** Promise 12, and of promise 7 what is told of the code: SLOTS, TEMPS, FRAME, instructions, BOUND. */
public final class CodeEdgeTest {
    private static final int TAILS = 4;
    private static final int MOST = 24;

    public static void main(String[] args) {
        look(new Edges()).finish();
    }

    static Edges look(Edges e) {
        return e.all(
            CodeEdgeTest::slotNumbers, CodeEdgeTest::plainCode, CodeEdgeTest::ifsAndCalls, CodeEdgeTest::endCode,
            CodeEdgeTest::tailCode, CodeEdgeTest::placesFromZero, CodeEdgeTest::temps, CodeEdgeTest::slots,
            CodeEdgeTest::frames, CodeEdgeTest::boundsOfCalls, CodeEdgeTest::boundsThatAreNone, CodeEdgeTest::boundsOfCircles,
            CodeEdgeTest::boundsAndRuns, CodeEdgeTest::answerOfNone, CodeEdgeTest::instructions, CodeEdgeTest::kindsAndNumbers,
            CodeEdgeTest::refused);
    }

    private static String code(String exp) {
        return Check.code(Check.reading("def f(a,b)=" + exp + ".def g()=1."), 0, 0);
    }

    private static String tailed(String text) {
        TailTrimmer x = Check.reading(text);
        x.trim(TAILS);
        return Check.code(x, 1, 0);
    }

    private static void slotNumbers(Edges e) {
        e.sentence(12, "A variable's SLOT: of parameter i i; of a let how many variables are around it.");
        e.within("parameter 0", code("a"), "2 0 17 0");
        e.within("parameter 5", Check.code(Check.reading("def f(a,b,c,d,e,g)=g."), 0, 0), "2 5 17 0");
        e.within("a let with none around", Check.code(Check.reading("def f()=let x=1 in x."), 0, 0), "1 1 13 0 2 0 17 0");
        e.within("a let behind two parameters", code("let x=1 in x"), "1 1 13 2 2 2 17 0");
        e.within("a let in one", code("let x=1 in let y=2 in y"), "1 1 13 2 1 2 13 3 2 3 17 0");
        e.beyond("a let in what another one is told", code("let x=let y=1 in y in x"), "1 1 13 2 2 2 13 2 2 2 17 0");
        e.beyond("a let beside one", code("(let x=1 in x)+(let y=2 in y)"), "1 1 13 2 2 2 1 2 13 2 2 2 3 0 17 0");
        e.beyond("a let behind one that is hidden", code("let a=1 in let a=2 in a+b"), "1 1 13 2 1 2 13 3 2 3 2 1 3 0 17 0");
        TailTrimmer deep = Check.reading("def f(a,b,c,d,e,g)=" + "let x=1 in ".repeat(30) + "x.");
        e.within("6 parameters and 29 lets around", deep.code(0, 0, 59, 1), 35);
        e.within("and loaded there", deep.code(0, 0, 60, 1), 35);
        TailTrimmer x = Check.reading("def s(p)=p.def f(a)=s(1)+s(2).def h(a)=let x=1 in let y=a in y.");
        x.trim(1);
        e.beyond("v1 and v2 have one SLOT", Check.code(x, 1, 1), "1 1 13 1 2 1 1 2 13 1 2 1 3 0 17 0");
        x.trim(2);
        e.beyond("what has gone is not around", Check.code(x, 1, 2), "2 0 13 1 2 1 17 0");
        // In f v0 lies within what v1 is told in; in g v0 is a parameter.
        TailTrimmer y = Check.reading("def s(p)=p.def t(p,q)=q.def f()=t(1,s(2)).def g(a)=a.");
        y.trim(1);
        e.beyond("a SLOT above that of its variable", Check.code(y, 1, 2), "1 1 13 0 1 2 13 1 2 1 13 1 2 1 17 0");
        e.within("and a parameter behind it", Check.code(y, 1, 3), "2 0 17 0");
    }

    private static void plainCode(Edges e) {
        e.sentence(12, "NUMBER: 1 CONST (its value). Variable: 2 LOAD (its SLOT). Operations: operands, then 3 .. 10 as their nodes."
            + " put: its exp, 11 PUT. ; : first, 12 DROP, second. let: its first, 13 STORE (SLOT), its second.");
        e.within("the least NUMBER that is read", code("0"), "1 0 17 0");
        e.within("the greatest", code("2147483647"), "1 2147483647 17 0");
        TailTrimmer x = Check.reading("def f()=-2147483647-1.");
        x.trim(2);
        e.beyond("the least of all", Check.code(x, 1, 0), "1 -2147483648 17 0");
        String[] two = {"+", "-", "*", "/", "%", "<", "=="};
        for (int i = 0; i < two.length; i++) {
            e.within("a" + two[i] + "b", code("a" + two[i] + "b"), "2 0 2 1 " + (3 + i) + " 0 17 0");
        }
        e.within("-a", code("-a"), "2 0 10 0 17 0");
        e.within("put(a)", code("put(a)"), "2 0 11 0 17 0");
        e.within("a;b", code("a;b"), "2 0 12 0 2 1 17 0");
        e.within("let x=a in b", code("let x=a in b"), "2 0 13 2 2 1 17 0");
    }

    private static void ifsAndCalls(Edges e) {
        e.sentence(12, "if: its first, 14 ELSE (the place of its third), its second, 15 JUMP (the place behind all), its third."
            + " Call: arguments, 16 CALL (function).");
        e.within("if", code("1+(if a then b else 3)"), "1 1 2 0 14 5 2 1 15 6 1 3 3 0 17 0");
        e.within("if in if", code("-(if a then if b then 1 else 2 else 3)"),
            "2 0 14 8 2 1 14 6 1 1 15 7 1 2 15 9 1 3 10 0 17 0");
        e.within("f(b,a)", code("-f(b,a)"), "2 1 2 0 16 0 10 0 17 0");
        e.within("g()", code("-g()"), "16 1 10 0 17 0");
        e.beyond("f(g(),f(1,2))", code("f(g(),f(1,2))+a"), "16 1 1 1 1 2 16 0 16 0 2 0 3 0 17 0");
    }

    private static void endCode(Edges e) {
        e.sentence(12, "At an END: if has no JUMP; what is no if, let or ; has 17 RETURN behind it;");
        e.within("a NUMBER", code("7"), "1 7 17 0");
        e.within("a call", code("g()"), "16 1 17 0");
        e.within("if", code("if a then b else 3"), "2 0 14 4 2 1 17 0 1 3 17 0");
        e.within("if in if", code("if a then if b then 1 else 2 else 3"), "2 0 14 8 2 1 14 6 1 1 17 0 1 2 17 0 1 3 17 0");
        e.within("let", code("let x=a in x"), "2 0 13 2 2 2 17 0");
        e.within(";", code("a;b"), "2 0 12 0 2 1 17 0");
        e.within("if in ; in let", code("let x=a in b;if x then 1 else 2"), "2 0 13 2 2 1 12 0 2 2 14 8 1 1 17 0 1 2 17 0");
        e.beyond("if within another one's first", code("if (if a then 1 else 2) then 3 else 4"),
            "2 0 14 4 1 1 15 5 1 2 14 8 1 3 17 0 1 4 17 0");
        e.beyond("if within a let's first", code("let x=if a then 1 else 2 in x"), "2 0 14 4 1 1 15 5 1 2 13 2 2 2 17 0");
        e.beyond("if within the first of ;", code("(if a then 1 else 2);b"), "2 0 14 4 1 1 15 5 1 2 12 0 2 1 17 0");
        e.beyond("if within put", code("put(if a then 1 else 2)"), "2 0 14 4 1 1 15 5 1 2 11 0 17 0");
    }

    private static void tailCode(Edges e) {
        e.sentence(12, "with TAILS a call of itself is 18 AGAIN, of another one 19 TAIL (function), in place of CALL, without RETURN.");
        e.within("itself", tailed("def f(a)=f(a)."), "2 0 18 0");
        e.within("another one", tailed("def f(a)=g(a).def g(a)=a."), "2 0 19 1");
        e.within("function 0", Check.code(tails("def g(a)=a.def f(a)=g(a)."), 1, 1), "2 0 19 0");
        e.within("itself as function 1", Check.code(tails("def g(a)=a.def f(a)=f(a)."), 1, 1), "2 0 18 0");
        e.within("without arguments", tailed("def f()=f()."), "18 0");
        e.within("both", tailed("def f(a)=if a then f(1) else g().def g()=1."), "2 0 14 4 1 1 18 0 19 1");
        e.beyond("not at an END", tailed("def f(a)=f(a)+1."), "2 0 16 0 1 1 3 0 17 0");
        e.beyond("as an argument", tailed("def f(a)=f(f(a))."), "2 0 16 0 18 0");
        e.beyond("without TAILS", Check.code(Check.reading("def f(a)=f(a)."), 1, 0), "2 0 16 0 17 0");
        e.beyond("as it was read", Check.code(tails("def f(a)=f(a)."), 0, 0), "2 0 16 0 17 0");
    }

    private static TailTrimmer tails(String text) {
        TailTrimmer x = Check.reading(text);
        x.trim(TAILS);
        return x;
    }

    private static void placesFromZero(Edges e) {
        e.sentence(12, "Places are counted from 0 in each function.");
        TailTrimmer x = Check.reading("def f(a)=if a then 1 else 2.def g(a)=-(if a then 1 else 2).def h(a)=if 1+a then 1 else 2.");
        e.within("ELSE of the first", x.code(0, 0, 1, 1), 4);
        e.beyond("ELSE of the second", x.code(0, 1, 1, 1), 4);
        e.beyond("JUMP of the second", x.code(0, 1, 3, 1), 5);
        e.beyond("ELSE of the third", x.code(0, 2, 3, 1), 6);
        e.within("what is at 0", x.code(0, 2, 0, 0), 1);
        TailTrimmer most = Check.reading("def f(a)=(if a then " + "-".repeat(20) + "1 else 2)+" + "a+".repeat(180) + "a.");
        e.within("a far place", most.code(0, 0, 1, 1), 24);
        e.within("runs there", most.run(0, 0, 99, 999), 1);
    }

    private static void temps(Edges e, String exp, int want) {
        e.within("TEMPS of <" + exp + ">", Check.reading("def f(a)=" + exp + ".def g()=1.def h(x,y,z)=1.").function(0, 0, 4) - 3, want);
    }

    private static void temps(Edges e) {
        e.sentence(7, "TEMPS of a function: the most values that are laid at a time (CONST, LOAD lay one, operations of two take one,"
            + " STORE, DROP, ELSE take one, CALL takes its arguments and lays one; AGAIN, TAIL take their arguments).");
        temps(e, "1", 1);
        temps(e, "a", 1);
        temps(e, "-put(a)", 1);
        temps(e, "a+1", 2);
        temps(e, "a+1+2+3", 2);
        temps(e, "a+(1+2)", 3);
        temps(e, "1+(".repeat(30) + "a" + ")".repeat(30), 31);
        temps(e, "a;1;2", 1);
        temps(e, "a<1;2==a", 2);
        temps(e, "if a then 1 else 2", 1);
        temps(e, "1+(if a then 2 else 3)", 2);
        temps(e, "(if a then 1 else 2)+(if a then 3 else 4)", 2);
        temps(e, "1+(if a then 2 else 3+4)", 3);
        temps(e, "g()", 1);
        temps(e, "g()+g()", 2);
        temps(e, "h(1,2,3)", 3);
        temps(e, "h(1,2,3)+1", 3);
        temps(e, "1+h(1,2,3)", 4);
        temps(e, "h(1,2,3+4)", 4);
        temps(e, "h(1,2,3);h(1,2,3)", 3);
        e.within("a let takes its value away", Check.reading("def f()=let x=1 in let y=2 in x.").function(0, 0, 4), 2 + 2 + 1);
        e.beyond("AGAIN lays none", tails("def f()=f().").function(1, 0, 4), 2);
        e.beyond("TAIL lays none", tails("def f()=g().def g()=1.").function(1, 0, 4), 2);
        e.beyond("AGAIN with three", tails("def f(a,b,c)=f(1,2,3).").function(1, 0, 4), 2 + 3 + 3);
        e.beyond("TAIL with one", tails("def f()=g(1).def g(a)=1.").function(1, 0, 4), 2 + 1);
        e.beyond("CALL lays one", Check.reading("def f()=f().").function(1, 0, 4), 3);
    }

    private static void slots(Edges e) {
        e.sentence(7, "SLOTS: the greatest SLOT that is stored or loaded, and 1, or as many as parameters, whatever is more.");
        e.within("none", Check.reading("def f()=1.").function(0, 0, 4) - 3, 0);
        e.within("parameters that are not loaded", Check.reading("def f(a,b,c,d,e,g)=1.").function(0, 0, 4) - 3, 6);
        e.within("a parameter that is loaded", Check.reading("def f(a,b)=a.").function(0, 0, 4) - 3, 2);
        e.beyond("a let that is stored alone", Check.reading("def f()=let x=1 in 2.").function(0, 0, 4) - 3, 1);
        e.beyond("a let behind parameters", Check.reading("def f(a,b)=let x=1 in 2.").function(0, 0, 4) - 3, 3);
        e.beyond("a let in one", Check.reading("def f(a)=let x=1 in let y=2 in a.").function(0, 0, 4) - 3, 3);
        e.within("lets beside one another", Check.reading("def f(a)=(let x=1 in x);(let y=2 in y);a.").function(0, 0, 4) - 3, 2);
        e.beyond("6 parameters and 30 lets", Check.reading("def f(a,b,c,d,e,g)=" + "let x=1 in ".repeat(30) + "x.").function(0, 0, 4) - 3, 36);
        TailTrimmer x = Check.reading("def f(a)=let x=1 in let y=a in y+x.");
        e.beyond("as it was read", x.function(0, 0, 4), 2 + 3 + 2);
        x.trim(2);
        e.within("when one has gone", x.function(1, 0, 4), 2 + 2 + 2);
    }

    private static void frames(Edges e) {
        e.sentence(7, "A FRAME has 2 + SLOTS + TEMPS words.");
        e.within("neither", tails("def f()=f().").function(1, 0, 4), 2);
        e.within("TEMPS alone", Check.reading("def f()=1.").function(0, 0, 4), 3);
        e.within("SLOTS alone", tails("def f(a)=g().def g()=1.").function(1, 0, 4), 3);
        e.within("both", Check.reading("def f(a,b)=a+b.").function(0, 0, 4), 6);
        TailTrimmer x = Check.reading("def f(a,b)=a+b.");
        e.within("a run within it", x.run(0, 0, 6, 99), 1);
        e.within("its words", x.told(2), 6);
        e.beyond("a run with a word less", x.run(0, 0, 5, 99), 2);
    }

    private static String bounds(TailTrimmer x, int which, int count) {
        StringBuilder all = new StringBuilder();
        for (int f = 0; f < count; f++) {
            all.append(f == 0 ? "" : " ").append(x.function(which, f, 6));
        }
        return all.toString();
    }

    private static String chain(String last) {
        StringBuilder text = new StringBuilder();
        for (int f = 0; f < MOST; f++) {
            text.append("def f").append(f).append("()=").append(f == MOST - 1 ? last : "f" + (f + 1) + "()").append('.');
        }
        return text.toString();
    }

    private static void boundsOfCalls(Edges e) {
        e.sentence(7, "b(f) is the greatest of its FRAME, of FRAME + b(g) for each CALL of g in its code, and of b(g) for each TAIL of g;");
        e.within("no call", Check.reading("def f(a)=a+1.").function(0, 0, 6), 5);
        TailTrimmer x = Check.reading("def a()=1+b().def b()=c(1,2).def c(x,y)=x.def d()=c(1,2)+a()+b().");
        e.within("CALLS, FRAMES 4 4 5 4", bounds(x, 0, 4), "13 9 5 17");
        x.trim(TAILS);
        e.beyond("b has a TAIL of c, which is larger", bounds(x, 1, 4), "9 5 5 13");
        TailTrimmer small = tails("def f(a,b)=if a then g() else b.def g()=1.");
        e.beyond("a TAIL of one that is smaller", bounds(small, 1, 2), "5 3");
        TailTrimmer both = tails("def f(a)=g(g(a)).def g(a)=a.");
        e.beyond("CALL and TAIL of one", bounds(both, 1, 2), "8 4");
        e.within("24 FRAMES of 3 words", Check.reading(chain("1")).function(0, 0, 6), 72);
        TailTrimmer other = tails("def f()=g().def g()=1+(2+(3+4)).");
        e.within("a TAIL of a larger one", bounds(other, 1, 2), "6 6");
        Check.lay(other, "def f()=1.def g()=1+(2+(3+4)).");
        other.read();
        e.beyond("of another text without it", bounds(other, 0, 2) + " " + bounds(other, 1, 2), "3 6 3 6");
        TailTrimmer run = Check.reading(chain("1"));
        e.within("a run within the BOUND", run.run(0, 0, 72, 999), 1);
        e.within("needs all of it", run.told(2), 72);
        e.beyond("a run with a word less", run.run(0, 0, 71, 999), 2);
    }

    private static void boundsThatAreNone(Edges e) {
        e.sentence(7, "none if a circle with a CALL in it can be come to, by CALLS and TAILS;");
        e.beyond("a CALL of itself", Check.reading("def f()=f().").function(0, 0, 6), -1);
        e.within("AGAIN", tails("def f()=f().").function(1, 0, 6), 2);
        e.beyond("AGAIN and a CALL of itself", tails("def f(a)=f(f(a)).").function(1, 0, 6), -1);
        TailTrimmer x = tails("def a()=b().def b()=1+a().def c()=a().def d()=1+c().def g()=1.def h()=1+g().");
        e.beyond("a circle of TAIL and CALL, and what comes to it", bounds(x, 1, 4), "-1 -1 -1 -1");
        e.within("what does not come to it", x.function(1, 4, 6), 3);
        e.within("nor this", x.function(1, 5, 6), 4 + 3);
        TailTrimmer two = tails("def a(n)=if n then b(n) else 1+b(n).def b(n)=a(n-1).");
        e.beyond("TAIL and CALL of one", bounds(two, 1, 2), "-1 -1");
        TailTrimmer out = tails("def a(n)=if n then b(n) else 1+h().def b(n)=a(n-1).def h()=1.");
        e.within("a CALL out of the circle", bounds(out, 1, 3), "8 8 3");
        TailTrimmer never = Check.reading("def a()=if 0 then a()+1 else 2.");
        e.beyond("a CALL that is never made", never.function(1, 0, 6), -1);
        never.trim(2);
        e.within("when it has gone", never.function(1, 0, 6), 3);
        e.beyond("a ring of 24 CALLS", Check.reading(chain("f0()")).function(0, 23, 6), -1);
        e.beyond("a chain of 23 CALLS to one of itself", Check.reading(chain("f23()")).function(0, 0, 6), -1);
        e.beyond("by TAILS to it", tails(chain("1+f23()")).function(1, 0, 6), -1);
    }

    private static void boundsOfCircles(Edges e) {
        e.sentence(7, "in a circle of TAILS alone all have the greatest.");
        e.within("two alike", bounds(tails("def a()=b().def b()=a()."), 1, 2), "2 2");
        TailTrimmer x = tails("def a(n)=b(n).def b(n)=c(n,n,n).def c(n,m,k)=a(n+(m+k)).def d()=a(1).def g(p,q,r,s,t,u)=a(p+(q+(r+(s+t)))).");
        e.within("FRAMES", x.function(1, 0, 4) + " " + x.function(1, 1, 4) + " " + x.function(1, 2, 4), "4 6 8");
        e.within("three", bounds(x, 1, 3), "8 8 8");
        e.beyond("one that comes to it", x.function(1, 3, 6), 8);
        e.beyond("a larger one that comes to it", x.function(1, 4, 6), 2 + 6 + 5);
        TailTrimmer ring = tails(chain("f0()").replace("def f0()=f1()", "def f0()=1+(2+3);f1()"));
        StringBuilder all = new StringBuilder("5");
        for (int f = 1; f < MOST; f++) {
            all.append(" 5");
        }
        e.within("24", bounds(ring, 1, MOST), all.toString());
    }

    private static void boundsAndRuns(Edges e) {
        e.sentence(7, "THE BOUND of a function: the words that it can need:");
        TailTrimmer x = Check.reading("def a(n)=b(n)+1.def b(n)=if n then c(n,n) else 0.def c(n,m)=let k=h(n) in b(k).def h(n)=n-(n/n).");
        e.beyond("a circle with CALLS has none", bounds(x, 0, 4), "-1 -1 -1 6");
        x.trim(TAILS);
        e.within("with TAILS", bounds(x, 1, 4), "17 12 12 6");
        x.argument(0, 3);
        for (int f = 0; f < 4; f++) {
            int bound = x.function(1, f, 6);
            e.within("run of " + f + " within its BOUND", x.run(1, f, bound, 999), 1);
            e.within("the words that it needs", x.told(2), bound);
            e.beyond("run of " + f + " with a word less", x.run(1, f, bound - 1, 999), 2);
        }
    }

    private static void answerOfNone(Edges e) {
        e.sentence(7, "6 its BOUND (-1 none)");
        TailTrimmer x = Check.reading("def f()=f().def g()=1.");
        e.beyond("function(0, 0, 6)", x.function(0, 0, 6), -1);
        e.within("function(0, 1, 6)", x.function(0, 1, 6), 3);
        e.beyond("function(1, 0, 6)", x.function(1, 0, 6), -1);
        x.trim(TAILS);
        e.within("function(1, 0, 6) with TAILS", x.function(1, 0, 6), 2);
        e.beyond("function(0, 0, 6), still", x.function(0, 0, 6), -1);
    }

    private static void instructions(Edges e) {
        e.sentence(7, "5 instructions");
        e.within("a NUMBER", Check.reading("def f()=1.").function(0, 0, 5), 2);
        e.within("AGAIN", tails("def f()=f().").function(1, 0, 5), 1);
        e.within("400 nodes without if", Check.reading("def f(a)=" + "a+".repeat(199) + "-a.").function(0, 0, 5), 401);
        String ifs = "(if a then 1 else 2)+".repeat(79) + "a";
        TailTrimmer x = Check.reading("def f(a)=" + ifs + ".");
        e.beyond("SIZE with 79 ifs", x.function(0, 0, 0), 79 * 5 + 1);
        e.beyond("a JUMP more for each if, and RETURN", x.function(0, 0, 5), 79 * 6 + 2);
        e.beyond("RETURN is the last", x.code(0, 0, 79 * 6 + 1, 0), 17);
        e.beyond("none behind it", x.code(0, 0, 79 * 6 + 2, 0), -1);
        mostInstructions(e);
    }

    /** A function of 76 nodes, 15 of them ifs, and 23 others that take it in six times: 475 nodes, 90 of them ifs. */
    private static void mostInstructions(Edges e) {
        StringBuilder text = new StringBuilder("def b(a)=").append("(if a then 1 else 2)+".repeat(15)).append("1.");
        for (int f = 1; f < MOST; f++) {
            text.append("def f").append(f).append("(a)=").append("b(a)+".repeat(6)).append(f).append('.');
        }
        TailTrimmer x = Check.reading(text.toString());
        x.budget(500);
        e.within("instructions of b", x.function(0, 0, 5), 76 + 15 + 1);
        e.within("instructions of another one", x.function(0, 1, 5), 19 + 1);
        e.beyond("calls REPLACED", x.trim(1), 6 * (MOST - 1));
        x.argument(0, 1);
        for (int f = 1; f < MOST; f++) {
            e.beyond("SIZE of an output", x.function(1, f, 0), 19 + 6 * 76);
            e.beyond("instructions", x.function(1, f, 5), 19 + 6 * 76 + 6 * 15 + 1);
            e.beyond("run of " + f, x.run(1, f, 999, 999), 1);
            e.beyond("value of " + f, x.told(0), 6 * 16 + f);
        }
    }

    private static void kindsAndNumbers(Edges e) {
        e.sentence(12, "Instruction i of a function: what = 0 its kind, 1 its number (0 when it has none).");
        TailTrimmer x = Check.reading("def g(p)=p.def f(a)=let b=put(-a) in (if b then 5 else g(a));f(b+7).");
        x.trim(TAILS);
        String want = "2 0 10 0 11 0 13 1 2 1 14 8 1 5 15 10 2 0 16 0 12 0 2 1 1 7 3 0 18 0";
        e.within("all of one function", Check.code(x, 1, 1), want);
        for (int i : new int[] {1, 2, 10, 13, 14}) {
            e.beyond("instruction " + i + " has no number", x.code(1, 1, i, 1), 0);
        }
        e.within("kind of instruction 6", x.code(1, 1, 6, 0), 1);
        e.within("number of instruction 6", x.code(1, 1, 6, 1), 5);
        e.beyond("RETURN has none", x.code(1, 0, 1, 1), 0);
    }

    private static void refused(Edges e) {
        e.sentence(12, "-1 no such which, function, instruction, -2 no such what.");
        TailTrimmer x = Check.reading("def f()=7.def g()=8.");
        for (int which = 0; which < 2; which++) {
            e.within("code(" + which + ", 0, 0, 0)", x.code(which, 0, 0, 0), 1);
            e.within("code(" + which + ", 0, 0, 1)", x.code(which, 0, 0, 1), 7);
            e.within("code(" + which + ", 1, 1, 0)", x.code(which, 1, 1, 0), 17);
            for (int i : new int[] {-1, 2, 3, 999, Integer.MIN_VALUE, Integer.MAX_VALUE}) {
                e.beyond("code(" + which + ", 0, " + i + ", 0)", x.code(which, 0, i, 0), -1);
                e.beyond("code(" + which + ", 1, " + i + ", 2)", x.code(which, 1, i, 2), -1);
            }
            for (int f : new int[] {-1, 2, 24, Integer.MIN_VALUE, Integer.MAX_VALUE}) {
                e.beyond("code(" + which + ", " + f + ", 0, 0)", x.code(which, f, 0, 0), -1);
                e.beyond("code(" + which + ", " + f + ", 0, 2)", x.code(which, f, 0, 2), -1);
            }
            for (int what : new int[] {-1, 2, Integer.MIN_VALUE, Integer.MAX_VALUE}) {
                e.beyond("code(" + which + ", 0, 0, " + what + ")", x.code(which, 0, 0, what), -2);
            }
        }
        for (int which : new int[] {-1, 2, Integer.MIN_VALUE, Integer.MAX_VALUE}) {
            e.beyond("code(" + which + ", 0, 0, 0)", x.code(which, 0, 0, 0), -1);
            e.beyond("code(" + which + ", 0, 0, 2)", x.code(which, 0, 0, 2), -1);
        }
    }
}
