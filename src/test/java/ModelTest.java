import java.util.ArrayList;
import java.util.List;
import java.util.Random;

/** Programs made by a told seed, good and broken ones: the class and the Model must answer alike. */
public final class ModelTest {
    private final Check check = new Check();
    private final Random random;
    private int read = 0;
    private int faulty = 0;
    private final int[] halts = new int[6];
    private final int[] faults = new int[8];
    private int replaced = 0;

    private ModelTest(long seed) {
        random = new Random(seed);
    }

    public static void main(String[] args) {
        long seed = args.length > 0 ? Long.parseLong(args[0]) : 20261115L;
        int rounds = args.length > 1 ? Integer.parseInt(args[1]) : 4000;
        ModelTest t = new ModelTest(seed);
        TailTrimmer x = new TailTrimmer();
        Model m = new Model();
        for (int i = 0; i < rounds && t.check.wrong() < 20; i++) {
            if (i % 3 == 0) {
                x = new TailTrimmer();
                m = new Model();
            }
            t.round(x, m, t.text());
        }
        System.out.println(t.read + " texts read, " + t.faulty + " with faults, " + t.replaced + " calls replaced");
        for (int h = 1; h <= 5; h++) {
            if (t.halts[h] == 0) {
                t.check.fail("no run came to HALT " + h);
            }
        }
        for (int n = 1; n <= 7; n++) {
            if (t.faults[n] == 0) {
                t.check.fail("no text had FAULT " + n);
            }
        }
        t.check.finish();
    }

    // ---- texts

    private String text() {
        int kind = random.nextInt(10);
        String made;
        if (kind < 4) {
            made = program(1 + random.nextInt(6), 2 + random.nextInt(4));
        } else if (kind == 4) {
            made = program(15 + random.nextInt(11), 2);
        } else if (kind == 5) {
            made = program(1 + random.nextInt(4), 7);
        } else if (kind == 6) {
            made = loops();
        } else if (kind == 7) {
            made = limits();
        } else {
            made = program(1 + random.nextInt(5), 3);
            for (int i = 0; i < 1 + random.nextInt(2); i++) {
                made = broken(made);
            }
        }
        return made.length() > 3000 ? made.substring(0, 3000) : made;
    }

    private String broken(String text) {
        if (text.isEmpty()) {
            return text;
        }
        int at = random.nextInt(text.length());
        String[] bits = {"(", ")", ",", ";", "=", "+", "-", "*", "/", "%", "<", "==", ".", "$", "A", "x", "let ", "in ",
            "if ", "then ", "else ", "put", "def ", "2147483648", "00000000001", "2147483647", "abcdefghi", "q()", " ", "\u00e9",
            "f0(", "f1(", "\n", "f1 ", ".def f0()=1.", "p0,", ",p1"};
        String bit = bits[random.nextInt(bits.length)];
        int f = random.nextInt(6);
        switch (random.nextInt(9)) {
            case 4: return text + "def f" + f + "(p0)=p0.";
            case 5: return text.replaceFirst("\\((?=p\\d[,)])", "(p1,");
            case 6: return text.replaceFirst("f" + f + "\\s*\\((?=[^)])", "f" + f + "(7,");
            case 7: return text.substring(0, at) + text.substring(at).replaceFirst("f\\d+(\\s*)\\(", "q$1(");
            case 8: return text.replaceFirst("def f" + f + "\\(", "def g" + f + "(");
            case 0: return text.substring(0, at) + bit + text.substring(at);
            case 1: return text.substring(0, at) + text.substring(at + 1);
            case 2: return text.substring(0, at) + bit + text.substring(at + 1);
            default: return text.substring(0, at);
        }
    }

    private int[] parameters;

    private String program(int functions, int depth) {
        parameters = new int[functions];
        for (int f = 0; f < functions; f++) {
            parameters[f] = random.nextInt(random.nextInt(6) == 0 ? 7 : 3);
        }
        boolean circles = random.nextInt(3) == 0;
        StringBuilder all = new StringBuilder();
        for (int f = 0; f < functions; f++) {
            List<String> scope = new ArrayList<>();
            all.append("def f").append(f).append('(');
            for (int i = 0; i < parameters[f]; i++) {
                scope.add("p" + i);
                all.append(i == 0 ? "" : ",").append("p").append(i);
            }
            all.append(")=").append(exp(scope, depth, circles ? functions : f)).append('.').append(blanks());
        }
        return all.toString();
    }

    private String blanks() {
        String[] some = {"", " ", "\n", "\t", "\r\n", "  "};
        return some[random.nextInt(some.length)];
    }

    /** Calls go to functions below the told one. */
    private String exp(List<String> scope, int depth, int below) {
        int kind = depth <= 0 ? 9 : random.nextInt(10);
        if (kind == 0 || kind == 1) {
            String name = random.nextInt(3) == 0 && !scope.isEmpty() ? scope.get(random.nextInt(scope.size()))
                : "v" + random.nextInt(4);
            String a = exp(scope, depth - 1, below);
            scope.add(name);
            String b = exp(scope, depth - 1, below);
            scope.remove(scope.size() - 1);
            return "let " + name + blanks() + "=" + a + " in " + b;
        }
        if (kind == 2 || kind == 3) {
            return "if " + exp(scope, depth - 1, below) + " then " + exp(scope, depth - 1, below) + " else "
                + exp(scope, depth - 1, below);
        }
        if (kind == 4) {
            return same(scope, depth - 1, below) + ";" + exp(scope, depth - 1, below);
        }
        return same(scope, depth, below);
    }

    private String same(List<String> scope, int depth, int below) {
        int kind = depth <= 0 ? 9 : random.nextInt(10);
        if (kind < 5) {
            String[] signs = {"+", "-", "*", "/", "%", "+", "-"};
            return unary(scope, depth - 1, below) + blanks() + signs[random.nextInt(signs.length)]
                + unary(scope, depth - 1, below);
        }
        if (kind == 5) {
            return unary(scope, depth - 1, below) + "+" + unary(scope, depth - 1, below) + "*"
                + unary(scope, depth - 2, below) + (random.nextBoolean() ? "<" : "==") + unary(scope, depth - 1, below);
        }
        return unary(scope, depth, below);
    }

    private String unary(List<String> scope, int depth, int below) {
        int kind = random.nextInt(12);
        if (kind == 0 && depth > 0) {
            return "-" + unary(scope, depth - 1, below);
        }
        if (kind < 4 && below > 0 && depth > -2) {
            int g = random.nextInt(below);
            StringBuilder call = new StringBuilder("f" + g + blanks() + "(");
            for (int i = 0; i < parameters[g]; i++) {
                call.append(i == 0 ? "" : ",").append(exp(scope, depth - 2, below));
            }
            return call.append(')').toString();
        }
        if (kind == 4 && depth > 0) {
            return "put(" + exp(scope, depth - 1, below) + ")";
        }
        if (kind < 7 && depth > 0) {
            return "(" + exp(scope, depth - 1, below) + ")";
        }
        if (kind < 10 && !scope.isEmpty()) {
            return scope.get(random.nextInt(scope.size()));
        }
        String[] numbers = {"0", "1", "2", "3", "7", "10", "2147483647", "0001", "65536"};
        return numbers[random.nextInt(numbers.length)];
    }

    /** Functions that go on for a while, by themselves or by one another, at the end or not. */
    private String loops() {
        String[] all = {
            "def f0(a,b)=if a<1 then b else f0(a-1,b+a).",
            "def f1(n)=if n==0 then 1 else f2(n-1). def f2(n)=let k=n*2 in if k==0 then 0 else put(k);f1(n-1).",
            "def f3(n)=if n<2 then n else f3(n-1)+f3(n-2).",
            "def f4(n,m)=put(n*m);if n<1 then m else f4(n-1,m+2).",
            "def f5(a,b,c)=f6(c,a).def f6(a,b)=if a<0 then b else f5(b,a-1,a-1-put(b)/(a-3)).",
            "def f7()=f8(1).def f8(x)=let y=x+1 in let z=y*y in f9(x,y,z).def f9(x,y,z)=if x<100 then f8(x+z%7) else z.",
            "def g1(x)=x+1.def g2(x)=g1(g1(x))*2.def g3(x)=g2(g2(x));g2(0)-g1(5).def g4(x)=if 1<2 then g3(x) else g4(x)."};
        StringBuilder text = new StringBuilder();
        for (String one : all) {
            if (random.nextBoolean()) {
                text.append(one).append(blanks());
            }
        }
        return text.toString();
    }

    private String limits() {
        int more = random.nextInt(5) - 2;
        StringBuilder text = new StringBuilder();
        switch (random.nextInt(9)) {
            case 0:
                return "def f(x)=" + nest(30 + more) + ".";
            case 1:
                for (int i = 0; i < 40 + more; i++) {
                    text.append("(let y=x in y)+");
                }
                return "def f(x)=" + text + "1. def g()=f(2).";
            case 2:
                return "def f(x)=" + Check.times("x+", 199 + more) + "x. def g()=f(2)-f(3).";
            case 3:
                return "def f(x)=-x;" + Check.times(random.nextBoolean() ? "x;" : "put(1);", 130 + more)
                    + "x. def g(z)=f(z)+f(2).";
            case 4:
                for (int i = 0; i < 24 + more; i++) {
                    text.append("def a").append(i).append("(x)=").append(i == 0 ? "x+x" : "a" + (i - 1) + "(x)+a" + i / 2 + "(x)")
                        .append('.');
                }
                return text.toString();
            case 5:
                return "def f(a,b,c,d,e" + ",g,h,i".substring(0, 2 * (1 + (more + 2) % 3)) + ")=a. def m()=f(1,2,3,4,5,6).";
            case 6: {
                StringBuilder lets = new StringBuilder();
                for (int i = 0; i < 20 + more; i++) {
                    lets.append("let v").append(i).append("=a").append(i == 0 ? "" : "+v" + (i - 1)).append(" in ");
                }
                return "def f(a)=" + lets + "v1. def g(x)=f(x)+f(x+1)*f(f(x))-f(1)%f(x)+f(8)+f(9)+f(x). def h(x)=g(g(x)).";
            }
            case 7:
                return "def f()=" + Check.times("(-2147483647-1)+", 90 + 2 * more) + "0. def g()=f()*f()+f()+f()+f()+f()."
                    + "def longname(a)=" + Check.times("longname(", 20) + "a" + Check.times(")", 20) + ".";
            default:
                return "def f(a)=" + Check.times("if a then a else ", 30 + more) + "f(a+1). def g(x)=1+f(x)+(if x then 1 else f(2)).";
        }
    }

    private String nest(int depth) {
        StringBuilder before = new StringBuilder();
        StringBuilder behind = new StringBuilder();
        boolean atExp = true;
        for (int i = 0; i < depth; i++) {
            int kind = random.nextInt(atExp ? 7 : 4);
            if (kind == 0) {
                before.append("-");
            } else if (kind <= 3) {
                before.append(kind == 1 ? "(" : kind == 2 ? "f(" : "put(");
                behind.insert(0, ")");
            } else {
                before.append(kind == 4 ? "let y=x in " : kind == 5 ? "if x then 2 else " : "if x;put(1) then let z=x in z else ");
            }
            atExp = kind != 0;
        }
        return before + "x" + behind;
    }

    // ---- the comparing

    private void round(TailTrimmer x, Model m, String text) {
        String head = "for <" + text + "> ";
        Check.lay(x, text);
        int got = x.read();
        try {
            int want = m.read(text);
            check.due(head + "read()", got, want);
            check.due(head + "place()", x.place(), -1);
            read++;
        } catch (Model.Fault fault) {
            check.due(head + "read()", got, -10 - fault.number);
            check.due(head + "place()", x.place(), fault.place);
            faulty++;
            faults[fault.number]++;
        }
        compareGraph(x, m, head);
        compareProgram(x, m, 0, head);
        compareProgram(x, m, 1, head);
        for (int i = 0; i < 4; i++) {
            int b = random.nextInt(4) == 0 ? 500 : random.nextInt(60);
            if (random.nextBoolean()) {
                check.due(head + "budget", x.budget(b), m.budget);
                m.budget = b;
            }
            int mode = random.nextInt(8);
            String where = head + "trim(" + mode + ") of budget " + m.budget + " ";
            int count = m.trim(mode);
            replaced += count;
            check.due(where, x.trim(mode), count);
            compareProgram(x, m, 1, where);
            alikeRuns(m, where);
        }
    }

    private void compareGraph(TailTrimmer x, Model m, String head) {
        int n = m.source.size();
        for (int f = 0; f < n; f++) {
            check.due(head + "order " + f, x.order(f), m.order.get(f));
            for (int g = 0; g < n; g++) {
                check.due(head + "calls " + f + " " + g, x.calls(f, g, 0), m.direct[f][g] ? 1 : 0);
                check.due(head + "circle " + f + " " + g, x.calls(f, g, 1), m.comes[f][g] && m.comes[g][f] ? 1 : 0);
            }
        }
        check.due(head + "order " + n, x.order(n), -1);
        check.due(head + "calls to " + n, x.calls(0, n, 0), -1);
    }

    private void compareProgram(TailTrimmer x, Model m, int which, String head) {
        List<Model.Function> all = which == 0 ? m.source : m.output;
        for (int f = 0; f < all.size(); f++) {
            Model.Function want = all.get(f);
            String at = head + which + " " + want.name + " ";
            List<Model.Node> calls = new ArrayList<>();
            want.body.calls(calls);
            int[] told = {want.body.size(), want.parameters, want.variables, calls.size(), want.frame(), want.code.size(),
                want.bound, want.replaced};
            for (int what = 0; what < 8; what++) {
                check.due(at + "what " + what, x.function(which, f, what), told[what]);
            }
            String body = m.written(all, want.body);
            if (body.length() > 6000) {
                check.due(at + "write", x.write(which, f), -4);
            } else {
                check.due(at + "write", Check.written(x, which, f), body);
                check.due(at + "octet", x.octet(body.length()), -1);
            }
            for (int i = 0; i < want.code.size(); i++) {
                check.due(at + "code kind " + i, x.code(which, f, i, 0), want.code.get(i)[0]);
                check.due(at + "code number " + i, x.code(which, f, i, 1), want.code.get(i)[1]);
            }
            check.due(at + "code behind", x.code(which, f, want.code.size(), 0), -1);
        }
        for (int i = 0; i < 4 && !all.isEmpty(); i++) {
            compareRun(x, m, which, head);
        }
    }

    private final int[] arguments = new int[6];

    private int anyNumber() {
        int[] some = {0, 1, -1, 2, 5, 9, 40, 300, Integer.MIN_VALUE, Integer.MAX_VALUE};
        return some[random.nextInt(some.length)];
    }

    private void compareRun(TailTrimmer x, Model m, int which, String head) {
        List<Model.Function> all = which == 0 ? m.source : m.output;
        int f = random.nextInt(all.size());
        for (int i = 0; i < 6; i++) {
            arguments[i] = anyNumber();
            x.argument(i, arguments[i]);
        }
        int bound = all.get(f).bound;
        int words = random.nextInt(3) == 0 ? random.nextInt(60) : random.nextInt(4) == 0 ? 20000 : 1000;
        if (bound >= 0 && random.nextBoolean()) {
            words = bound;
        }
        int steps = random.nextInt(4) == 0 ? random.nextInt(60) : random.nextInt(9) == 0 ? 20000 : 2000;
        String at = head + "run " + which + " " + f + " " + words + " " + steps + " ";
        m.run(all, f, arguments, words, steps);
        check.due(at, x.run(which, f, words, steps), m.halt);
        halts[m.halt]++;
        check.due(at + "value", x.told(0), m.value);
        check.due(at + "steps", x.told(1), m.steps);
        check.due(at + "words", x.told(2), m.most);
        check.due(at + "puts", x.told(3), m.puts.size());
        for (int i = 0; i < m.puts.size(); i++) {
            check.due(at + "put " + i, x.putAt(i), m.puts.get(i));
        }
        check.due(at + "put behind", x.putAt(m.puts.size()), 0);
        if (bound >= 0 && words >= bound && m.halt == 2) {
            check.fail(at + "overflows within its BOUND");
        }
    }

    /** What was trimmed has the same value and puts the same, whatever the mode. */
    private void alikeRuns(Model m, String head) {
        for (int f = 0; f < m.source.size(); f++) {
            int[] given = {3, 2, anyNumber(), 1, 0, 5};
            m.run(m.source, f, given, 20000, 6000);
            int halt = m.halt;
            int value = m.value;
            List<Integer> puts = m.puts;
            m.run(m.output, f, given, 20000, 9000);
            if ((halt == 1 || halt == 3) && m.halt != 4 && m.halt != 2) {
                check.due(head + "halts alike", m.halt, halt);
                check.due(head + "values alike", m.value, value);
                check.due(head + "puts alike", m.puts.toString(), puts.toString());
            }
        }
    }
}
