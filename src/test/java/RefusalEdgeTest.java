import java.util.function.ToIntFunction;

/**
 * Promises 2 to 15: a refusal changes nothing, and of several that fit the first is told. Two objects are made by
 * the same calls, one of them gets a call more, and then both are asked for all that can be asked.
 */
public final class RefusalEdgeTest {
    private static final String NOTHING = "ANSWERS below 0 are refusals and change nothing: -1 there is none, -2 outside the range, -4 no room;";
    private static final String FIRST = "the first that fits;";
    private static final String TEXT = "def s(p)=put(p)+1.def f(a,b)=let c=s(a) in if c<b then f(b,a) else c/2.";
    private static final int LEAST = Integer.MIN_VALUE;
    private static final int GREATEST = Integer.MAX_VALUE;

    public static void main(String[] args) {
        look(new Edges()).finish();
    }

    static Edges look(Edges e) {
        return e.all(
            RefusalEdgeTest::faults, RefusalEdgeTest::feeds, RefusalEdgeTest::reads, RefusalEdgeTest::budgets,
            RefusalEdgeTest::trims, RefusalEdgeTest::functions, RefusalEdgeTest::graphs, RefusalEdgeTest::orders,
            RefusalEdgeTest::writes, RefusalEdgeTest::octets, RefusalEdgeTest::codes, RefusalEdgeTest::arguments,
            RefusalEdgeTest::runs, RefusalEdgeTest::tolds, RefusalEdgeTest::firstThatFits);
    }

    /** An object with something of everything: functions, an output, a budget, arguments, a run, bytes written. */
    private static TailTrimmer used() {
        TailTrimmer x = Check.reading(TEXT);
        x.budget(9);
        x.trim(5);
        x.argument(0, 3);
        x.argument(1, 5);
        x.argument(5, -7);
        x.run(1, 1, 300, 300);
        x.write(1, 0);
        return x;
    }

    private static String state(TailTrimmer x, boolean withPlace) {
        StringBuilder all = new StringBuilder();
        all.append(withPlace ? x.place() : 0).append(' ');
        for (int i = 0; i < 16; i++) {
            all.append(x.octet(i)).append(' ');
        }
        for (int what = 0; what < 4; what++) {
            all.append(x.told(what)).append(' ').append(x.putAt(what)).append(' ');
        }
        for (int i = 0; i < 6; i++) {
            all.append(x.argument(i, 0)).append(' ');
        }
        all.append(x.budget(20)).append(' ');
        for (int which = 0; which < 2; which++) {
            for (int f = 0; f < 3; f++) {
                for (int what = 0; what < 8; what++) {
                    all.append(x.function(which, f, what)).append(' ');
                }
                all.append(Check.code(x, which, f)).append(' ');
            }
        }
        for (int f = 0; f < 3; f++) {
            all.append(x.order(f)).append(' ').append(x.calls(f, 1, 0)).append(' ').append(x.calls(1, f, 1)).append(' ');
        }
        return all.append(textState(x)).toString();
    }

    /** What the text is can be asked by reading it alone. */
    private static String textState(TailTrimmer x) {
        int length = x.feed(32, 1);
        int count = x.read();
        return length + " " + count + " " + x.place() + " " + Check.written(x, 0, 1);
    }

    private static void refused(Edges e, String call, ToIntFunction<TailTrimmer> made, int want) {
        TailTrimmer x = used();
        e.beyond(call, made.applyAsInt(x), want);
        e.beyond("all behind " + call, state(x, true), state(used(), true));
    }

    /** An accepted call that changes something: the state can tell. */
    private static void changing(Edges e, String call, ToIntFunction<TailTrimmer> made, int want) {
        TailTrimmer x = used();
        e.within(call, made.applyAsInt(x), want);
        e.within("all is as before " + call, state(x, true).equals(state(used(), true)) ? 1 : 0, 0);
    }

    /** An accepted call that only asks. */
    private static void asking(Edges e, String call, ToIntFunction<TailTrimmer> made, int want) {
        TailTrimmer x = used();
        e.within(call, made.applyAsInt(x), want);
        e.within("all behind " + call, state(x, true), state(used(), true));
    }

    private static void faults(Edges e) {
        e.sentence(3, "With a fault nothing is changed.");
        String[] texts = {"def q()=1.$", "def q()=1.q", "def q()=1.def q()=2.", "def q()=1.def r()=x.", "def q(a,b,c,d,e,g,h)=1.",
            "def q()=1.def r()=q();z().", "def q()=1.def r()=q(1)."};
        for (int fault = 1; fault <= 7; fault++) {
            TailTrimmer x = used();
            TailTrimmer y = used();
            Check.lay(x, texts[fault - 1]);
            Check.lay(y, texts[fault - 1]);
            e.beyond("read() with FAULT " + fault, x.read(), -10 - fault);
            e.beyond("all behind FAULT " + fault, state(x, false), state(y, false));
            x = used();
            y = used();
            Check.lay(x, texts[fault - 1]);
            x.read();
            e.beyond("trim(3) behind FAULT " + fault, x.trim(3), y.trim(3));
            e.beyond("the output behind FAULT " + fault, Check.written(x, 1, 1), Check.written(y, 1, 1));
            e.beyond("run() behind FAULT " + fault, x.run(1, 1, 300, 300), y.run(1, 1, 300, 300));
        }
        TailTrimmer x = used();
        TailTrimmer y = used();
        Check.lay(x, "def q()=1.");
        Check.lay(y, "def q()=1.");
        e.within("read() without a fault", x.read(), 1);
        e.within("is all as before", state(x, false).equals(state(y, false)) ? 1 : 0, 0);
    }

    private static void feeds(Edges e) {
        e.sentence(2, NOTHING);
        changing(e, "feed(46, 1)", x -> x.feed(46, 1), TEXT.length() + 1);
        changing(e, "feed(46, 0)", x -> x.feed(46, 0), 0);
        for (int n : new int[] {-1, 9, LEAST, GREATEST}) {
            refused(e, "feed(46, " + n + ")", x -> x.feed(46, n), -2);
        }
        TailTrimmer x = new TailTrimmer();
        Check.lay(x, "def f()=" + " ".repeat(2986) + "1.");
        e.within("a text of 2996", x.read(), 1);
        e.beyond("feed of 5 more", x.feed(0x2424242424L, 5), -4);
        e.beyond("the text is as it was", x.read(), 1);
        e.beyond("and has room for 4", x.feed(0x20202020L, 4), 3000);
    }

    private static void reads(Edges e) {
        e.sentence(3, NOTHING);
        changing(e, "read()", TailTrimmer::read, 2);
        TailTrimmer x = used();
        x.feed('$', 1);
        TailTrimmer y = used();
        y.feed('$', 1);
        e.beyond("read() with a fault", x.read(), -11);
        e.beyond("all but the place", state(x, false), state(y, false));
    }

    private static void budgets(Edges e) {
        e.sentence(5, NOTHING);
        changing(e, "budget(0)", x -> x.budget(0), 9);
        changing(e, "budget(500)", x -> x.budget(500), 9);
        for (int b : new int[] {-1, 501, LEAST, GREATEST}) {
            refused(e, "budget(" + b + ")", x -> x.budget(b), -2);
        }
    }

    private static void trims(Edges e) {
        e.sentence(6, NOTHING);
        changing(e, "trim(0)", x -> x.trim(0), 0);
        changing(e, "trim(1)", x -> x.trim(1), 1);
        asking(e, "trim(5) once more", x -> x.trim(5), 1);
        for (int mode : new int[] {-1, 8, 9, LEAST, GREATEST}) {
            refused(e, "trim(" + mode + ")", x -> x.trim(mode), -2);
        }
    }

    private static void functions(Edges e) {
        e.sentence(7, NOTHING);
        asking(e, "function(1, 1, 1)", x -> x.function(1, 1, 1), 2);
        refused(e, "function(2, 0, 0)", x -> x.function(2, 0, 0), -1);
        refused(e, "function(0, 2, 0)", x -> x.function(0, 2, 0), -1);
        refused(e, "function(0, -1, 0)", x -> x.function(0, -1, 0), -1);
        refused(e, "function(0, 0, 8)", x -> x.function(0, 0, 8), -2);
        refused(e, "function(0, 0, -1)", x -> x.function(0, 0, -1), -2);
    }

    private static void graphs(Edges e) {
        e.sentence(8, NOTHING);
        asking(e, "calls(1, 0, 0)", x -> x.calls(1, 0, 0), 1);
        refused(e, "calls(2, 0, 0)", x -> x.calls(2, 0, 0), -1);
        refused(e, "calls(0, -1, 0)", x -> x.calls(0, -1, 0), -1);
        refused(e, "calls(0, 0, 2)", x -> x.calls(0, 0, 2), -2);
        refused(e, "calls(0, 0, -1)", x -> x.calls(0, 0, -1), -2);
    }

    private static void orders(Edges e) {
        e.sentence(9, NOTHING);
        asking(e, "order(1)", x -> x.order(1), 1);
        refused(e, "order(2)", x -> x.order(2), -1);
        refused(e, "order(-1)", x -> x.order(-1), -1);
    }

    private static void writes(Edges e) {
        e.sentence(10, NOTHING);
        changing(e, "write(0, 1)", x -> x.write(0, 1), 56);
        asking(e, "write(1, 0) once more", x -> x.write(1, 0), 11);
        refused(e, "write(2, 0)", x -> x.write(2, 0), -1);
        refused(e, "write(-1, 0)", x -> x.write(-1, 0), -1);
        refused(e, "write(0, 2)", x -> x.write(0, 2), -1);
        refused(e, "write(1, -1)", x -> x.write(1, -1), -1);
        TailTrimmer x = ExpressionEdgeTest.longOne("put(".repeat(14), ")".repeat(14));
        e.within("write(1, 1) of 6000 bytes", x.write(1, 1), 6000);
        e.within("octet(47)", x.octet(47) == -1 ? 0 : 1, 1);
        x = ExpressionEdgeTest.longOne("--" + "put(".repeat(13), ")".repeat(13));
        e.beyond("write(1, 1) of 6001 bytes", x.write(1, 1), -4);
        e.beyond("what was written before", Check.latest(x, 47), "(if 2147483647 then 2147483647 else 2147483647)");
        e.beyond("and no more", x.octet(47), -1);
    }

    private static void octets(Edges e) {
        e.sentence(11, NOTHING);
        asking(e, "octet(0)", x -> x.octet(0), '(');
        refused(e, "octet(-1)", x -> x.octet(-1), -1);
        refused(e, "octet(11)", x -> x.octet(11), -1);
    }

    private static void codes(Edges e) {
        e.sentence(12, NOTHING);
        asking(e, "code(1, 1, 0, 0)", x -> x.code(1, 1, 0, 0), 2);
        refused(e, "code(2, 0, 0, 0)", x -> x.code(2, 0, 0, 0), -1);
        refused(e, "code(0, 2, 0, 0)", x -> x.code(0, 2, 0, 0), -1);
        refused(e, "code(0, 0, 99, 0)", x -> x.code(0, 0, 99, 0), -1);
        refused(e, "code(0, 0, 0, 2)", x -> x.code(0, 0, 0, 2), -2);
    }

    private static void arguments(Edges e) {
        e.sentence(13, NOTHING);
        changing(e, "argument(5, 8)", x -> x.argument(5, 8), -7);
        refused(e, "argument(6, 8)", x -> x.argument(6, 8), -2);
        refused(e, "argument(-1, 8)", x -> x.argument(-1, 8), -2);
    }

    private static void runs(Edges e) {
        e.sentence(14, NOTHING);
        changing(e, "run(0, 0, 300, 300)", x -> x.run(0, 0, 300, 300), 1);
        asking(e, "run(1, 1, 300, 300) once more", x -> x.run(1, 1, 300, 300), 1);
        refused(e, "run(2, 0, 300, 300)", x -> x.run(2, 0, 300, 300), -1);
        refused(e, "run(0, 2, 300, 300)", x -> x.run(0, 2, 300, 300), -1);
        refused(e, "run(0, 0, -1, 300)", x -> x.run(0, 0, -1, 300), -2);
        refused(e, "run(0, 0, 20001, 300)", x -> x.run(0, 0, 20001, 300), -2);
        refused(e, "run(0, 0, 300, -1)", x -> x.run(0, 0, 300, -1), -2);
        refused(e, "run(0, 0, 300, 20001)", x -> x.run(0, 0, 300, 20001), -2);
    }

    private static void tolds(Edges e) {
        e.sentence(15, NOTHING);
        asking(e, "told(3)", x -> x.told(3), 2);
        refused(e, "told(4)", x -> x.told(4), -2);
        refused(e, "told(-1)", x -> x.told(-1), -2);
    }

    private static void firstThatFits(Edges e) {
        e.sentence(2, FIRST);
        TailTrimmer full = new TailTrimmer();
        Check.lay(full, " ".repeat(3000));
        e.within("feed(0, 8) of a full text", full.feed(0, 8), -4);
        e.beyond("feed(0, 9) of a full text", full.feed(0, 9), -2);
        TailTrimmer x = used();
        e.sentence(7, FIRST);
        e.within("function(0, 0, 8)", x.function(0, 0, 8), -2);
        e.beyond("function(2, 0, 8)", x.function(2, 0, 8), -1);
        e.beyond("function(0, 2, 8)", x.function(0, 2, 8), -1);
        e.sentence(8, FIRST);
        e.within("calls(0, 0, 2)", x.calls(0, 0, 2), -2);
        e.beyond("calls(2, 0, 2)", x.calls(2, 0, 2), -1);
        e.beyond("calls(0, 2, 2)", x.calls(0, 2, 2), -1);
        e.sentence(12, FIRST);
        e.within("code(0, 0, 0, 2)", x.code(0, 0, 0, 2), -2);
        e.beyond("code(2, 0, 0, 2)", x.code(2, 0, 0, 2), -1);
        e.beyond("code(0, 2, 0, 2)", x.code(0, 2, 0, 2), -1);
        e.beyond("code(0, 0, 99, 2)", x.code(0, 0, 99, 2), -1);
        e.sentence(14, FIRST);
        e.within("run(0, 0, -1, -1)", x.run(0, 0, -1, -1), -2);
        e.beyond("run(2, 0, -1, -1)", x.run(2, 0, -1, -1), -1);
        e.beyond("run(0, 2, -1, -1)", x.run(0, 2, -1, -1), -1);
    }
}
