/** Promises 8 and 9: calls and order. */
public final class GraphTest {
    private static final Check CHECK = new Check();

    public static void main(String[] args) {
        directCalls();
        circles();
        theOrder();
        refusals();
        staysAsRead();
        CHECK.finish();
    }

    private static final String SIX = "def a()=b(c()).def b(x)=d(x).def c()=1.def d(x)=if x then b(x-1) else e().def e()=e().def h()=a()+a().";

    private static void directCalls() {
        TailTrimmer x = Check.reading(SIX);
        int[][] want = {{0, 1, 1, 0, 0, 0}, {0, 0, 0, 1, 0, 0}, {0, 0, 0, 0, 0, 0}, {0, 1, 0, 0, 1, 0}, {0, 0, 0, 0, 1, 0},
            {1, 0, 0, 0, 0, 0}};
        for (int f = 0; f < 6; f++) {
            for (int g = 0; g < 6; g++) {
                CHECK.due("calls " + f + " " + g, x.calls(f, g, 0), want[f][g]);
            }
        }
    }

    private static void circles() {
        TailTrimmer x = Check.reading(SIX);
        for (int f = 0; f < 6; f++) {
            for (int g = 0; g < 6; g++) {
                boolean both = (f == 1 || f == 3) && (g == 1 || g == 3) || f == 4 && g == 4;
                CHECK.due("circle " + f + " " + g, x.calls(f, g, 1), both ? 1 : 0);
            }
        }
        TailTrimmer ring = Check.reading("def a()=b().def b()=c().def c()=d().def d()=a().def e()=a().");
        for (int f = 0; f < 5; f++) {
            for (int g = 0; g < 5; g++) {
                CHECK.due("ring " + f + " " + g, ring.calls(f, g, 1), f < 4 && g < 4 ? 1 : 0);
            }
        }
    }

    private static void order(String text, int... want) {
        TailTrimmer x = Check.reading(text);
        for (int k = 0; k < want.length; k++) {
            CHECK.due("order " + k + " of <" + text + ">", x.order(k), want[k]);
        }
        CHECK.due("order behind <" + text + ">", x.order(want.length), -1);
    }

    private static void theOrder() {
        order(SIX, 2, 4, 3, 1, 0, 5);
        // Arguments before the call that has them, whatever stands first in the text.
        order("def a()=b(c()).def b(x)=x.def c()=1.", 2, 1, 0);
        order("def a()=b(1)+c().def b(x)=x.def c()=1.", 1, 2, 0);
        order("def a()=if c() then d() else b().def b()=1.def c()=2.def d()=3.", 2, 3, 1, 0);
        order("def a()=let x=d() in c();b().def b()=1.def c()=2.def d()=3.", 3, 2, 1, 0);
        order("def a()=b().def b()=c().def c()=a().", 2, 1, 0);
        order("def a()=1.def b()=1.def c()=b()-a().", 0, 1, 2);
        StringBuilder chain = new StringBuilder();
        int[] want = new int[24];
        for (int i = 0; i < 24; i++) {
            chain.append("def f").append(i).append("()=").append(i == 23 ? "1" : "f" + (i + 1) + "()").append(".");
            want[i] = 23 - i;
        }
        order(chain.toString(), want);
    }

    private static void refusals() {
        TailTrimmer x = Check.reading(SIX);
        CHECK.due("no f", x.calls(6, 0, 0), -1);
        CHECK.due("no g", x.calls(0, 6, 0), -1);
        CHECK.due("f below 0", x.calls(-1, 0, 1), -1);
        CHECK.due("g below 0", x.calls(0, -1, 1), -1);
        CHECK.due("no f before no what", x.calls(24, 0, 2), -1);
        CHECK.due("no what", x.calls(0, 0, 2), -2);
        CHECK.due("what below 0", x.calls(0, 0, -1), -2);
        CHECK.due("order -1", x.order(-1), -1);
        CHECK.due("order 6", x.order(6), -1);
        CHECK.due("order 24", x.order(24), -1);
        CHECK.due("order most", x.order(Integer.MAX_VALUE), -1);
        CHECK.due("order least", x.order(Integer.MIN_VALUE), -1);
    }

    private static void staysAsRead() {
        TailTrimmer x = Check.reading("def a()=1.def b()=if 0 then a() else a().");
        x.trim(7);
        CHECK.due("no call in the output", x.function(1, 1, 3), 0);
        CHECK.due("the graph is as it was read", x.calls(1, 0, 0), 1);
        CHECK.due("and its order", x.order(1), 1);
    }
}
