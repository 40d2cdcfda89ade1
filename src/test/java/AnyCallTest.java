import java.util.Random;

/** LANGUAGE.md, rule 7: no call throws or fails to end, whatever it is given and whatever was before it. */
public final class AnyCallTest {
    private static final int CALLS = 512;
    private static final int[] EDGES = {0, 1, 2, 3, 4, 5, 6, 7, 8, 9, 23, 24, 25, 119, 120, 199, 200, 499, 500, 501, 5999, 6000, 20000, 20001,
        -1, -2, Integer.MIN_VALUE, Integer.MAX_VALUE};
    private static final String[] BITS = {"def ", "f", "g", "h", "(", ")", "()", "(a)", "(a,b)", "=", ".", "let x=", " in ", "if ", " then ",
        " else ", "put(", "a", "b", "x", "1", "0", "2147483647", "+", "-", "*", "/", "%", "<", "==", ";", ",", " ", "f(a)", "g(a,b)", "h()", "$"};
    private static final String[] TEXTS = {
        "def f(a)=if a<1 then put(a) else f(a-1).def g(a,b)=f(a)+f(b)/b.def h()=g(h(),1).",
        "def f(a)=let x=a*a in x+x.def g(a,b)=f(a)%f(b).def h()=g(2,3);g(4,0).",
        "def f(a)=g(a,a).def g(a,b)=if a then f(b-1) else put(b);f(b).def h()=f(7).",
        "def h()=" + "1+".repeat(199) + "1.def f(a)=h()+h()*h().def g(a,b)=f(a)+h()."};

    public static void main(String[] args) {
        Random random = new Random(20261116L);
        Check check = new Check();
        for (int round = 0; round < 400; round++) {
            TailTrimmer x = new TailTrimmer();
            for (int i = 0; i < CALLS; i++) {
                step(check, x, random, round);
            }
            check.due("round " + round, x.place() >= -1 ? 1 : 0, 1);
        }
        check.finish();
    }

    private static void step(Check check, TailTrimmer x, Random random, int round) {
        int kind = random.nextInt(20);
        try {
            if (kind == 0 && random.nextInt(4) == 0) {
                Check.lay(x, random.nextBoolean() ? TEXTS[random.nextInt(TEXTS.length)] : soup(random));
            }
            call(x, random, kind);
        } catch (RuntimeException | Error thrown) {
            check.fail("round " + round + ", call of kind " + kind + " threw " + thrown);
        }
    }

    private static void call(TailTrimmer x, Random r, int kind) {
        switch (kind) {
            case 0, 1 -> x.read();
            case 2 -> x.feed(r.nextLong(), r.nextInt(11) - 1);
            case 3 -> x.budget(any(r));
            case 4, 5 -> x.trim(r.nextInt(10) - 1);
            case 6 -> x.function(few(r), few(r), any(r));
            case 7 -> x.calls(few(r), few(r), few(r));
            case 8 -> x.order(any(r));
            case 9 -> x.write(few(r), few(r));
            case 10 -> x.octet(any(r));
            case 11 -> x.code(few(r), few(r), any(r), few(r));
            case 12 -> x.argument(any(r), any(r));
            case 13, 14 -> x.run(few(r), few(r), 20000, 20000);
            case 15 -> x.run(few(r), few(r), any(r), any(r));
            case 16 -> x.told(any(r));
            case 17 -> x.putAt(any(r));
            case 18 -> x.feed(BITS[r.nextInt(BITS.length)].charAt(0), 1);
            default -> x.place();
        }
    }

    private static int any(Random r) {
        return r.nextInt(4) == 0 ? r.nextInt() : EDGES[r.nextInt(EDGES.length)];
    }

    private static int few(Random r) {
        return r.nextInt(12) == 0 ? any(r) : r.nextInt(4) - (r.nextInt(8) == 0 ? 1 : 0);
    }

    private static String soup(Random r) {
        StringBuilder text = new StringBuilder(r.nextBoolean() ? "def f(a)=" : "");
        int bits = r.nextInt(r.nextInt(8) == 0 ? 900 : 40);
        for (int i = 0; i < bits; i++) {
            text.append(BITS[r.nextInt(BITS.length)]);
        }
        return text.length() > 3000 ? text.substring(0, 3000) : text.toString();
    }
}
