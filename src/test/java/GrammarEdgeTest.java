/** Promise 3: what the grammar lets stand where, each rule with what is just within and just beyond it. */
public final class GrammarEdgeTest {
    public static void main(String[] args) {
        look(new Edges()).finish();
    }

    static Edges look(Edges e) {
        return e.all(
            GrammarEdgeTest::definitions, GrammarEdgeTest::letsAndIfs, GrammarEdgeTest::reach, GrammarEdgeTest::sequences,
            GrammarEdgeTest::comparisons, GrammarEdgeTest::sums, GrammarEdgeTest::products, GrammarEdgeTest::unaries,
            GrammarEdgeTest::parts);
    }

    private static void written(Edges e, String exp, String want) {
        String text = "def f(a,b,c)=" + exp + ".";
        e.reads(1, text);
        e.within("<" + exp + ">", Check.written(Check.reading(text), 0, 0), want);
    }

    private static void cannot(Edges e, String before, String there) {
        e.faulty(2, "def f(a,b,c)=" + before, there + ".");
    }

    private static void definitions(Edges e) {
        e.sentence(3, "{ def NAME ( ) = exp . or def NAME ( NAME { , NAME } ) = exp . }");
        e.reads(0, "");
        e.reads(0, " \n");
        e.reads(1, "def f()=1.");
        e.reads(1, "def f(a)=1.");
        e.reads(1, "def f(a,b)=1.");
        e.reads(2, "def f()=1.def g(a)=1.");
        e.faulty(2, "", "f()=1.");
        e.faulty(2, "", ".");
        e.faulty(2, "def ", "()=1.");
        e.faulty(2, "def f", "=1.");
        e.faulty(2, "def f(", "=1.");
        e.faulty(2, "def f(", ",a)=1.");
        e.faulty(2, "def f(a,", ")=1.");
        e.faulty(2, "def f(a ", "b)=1.");
        e.faulty(2, "def f(a", ";b)=1.");
        e.faulty(2, "def f(a", "=1.");
        e.faulty(2, "def f()", "1.");
        e.faulty(2, "def f()=", ".");
        e.faulty(2, "def f()=1", "");
        e.faulty(2, "def f()=1", "def g()=1.");
        e.faulty(2, "def f()=1.", ".");
        e.faulty(2, "def f()=1.", "1");
        e.faulty(2, "def f()=1.def", "");
    }

    private static void letsAndIfs(Edges e) {
        e.sentence(3, "exp: let NAME = exp in exp, if exp then exp else exp");
        written(e, "let x=a in x", "(let v3=v0 in v3)");
        written(e, "let x=let y=a in y in let z=x in z", "(let v3=(let v4=v0 in v4) in (let v5=v3 in v5))");
        written(e, "if a then b else c", "(if v0 then v1 else v2)");
        written(e, "if if a then b else c then if a then b else c else if a then b else c",
            "(if (if v0 then v1 else v2) then (if v0 then v1 else v2) else (if v0 then v1 else v2))");
        written(e, "a+(let x=a in x)", "(v0+(let v3=v0 in v3))");
        written(e, "f(let x=a in x,if a then b else c,1)", "f((let v3=v0 in v3),(if v0 then v1 else v2),1)");
        cannot(e, "a+", "let x=a in x");
        cannot(e, "a*", "if a then b else c");
        cannot(e, "-", "let x=a in x");
        cannot(e, "a<", "if a then b else c");
        cannot(e, "let ", "=a in 1");
        cannot(e, "let ", "1=a in 1");
        cannot(e, "let x ", "a in 1");
        cannot(e, "let x=", "in 1");
        cannot(e, "let x=a ", "1");
        cannot(e, "let x=a in ", "");
        cannot(e, "if ", "then b else c");
        cannot(e, "if a ", "else c");
        cannot(e, "if a then ", "else c");
        cannot(e, "if a then b", "");
        cannot(e, "if a then b else ", "");
    }

    private static void reach(Edges e) {
        e.sentence(3, "(What is behind in, else is an exp, with all ; that follow; what is behind = of let and between if, then, else,"
            + " too, as far as it goes.)");
        written(e, "let x=a in x;b;c", "(let v3=v0 in (v3;(v1;v2)))");
        written(e, "if a then b else c;a;b", "(if v0 then v1 else (v2;(v0;v1)))");
        written(e, "let x=a;b;c in x", "(let v3=(v0;(v1;v2)) in v3)");
        written(e, "if a;b then b;c else c;a", "(if (v0;v1) then (v1;v2) else (v2;v0))");
        written(e, "if a then let x=b in x;c else c", "(if v0 then (let v3=v1 in (v3;v2)) else v2)");
        written(e, "a;let x=b in x;c", "(v0;(let v3=v1 in (v3;v2)))");
        written(e, "let x=a in x<b", "(let v3=v0 in (v3<v1))");
        TailTrimmer x = Check.reading("def f(a,b)=(let x=a in x);b.def g(a,b)=(if a then b else 1);b.def h(a)=(let x=a in x)+1.");
        e.beyond("a ) ends what is behind in", Check.written(x, 0, 0), "((let v2=v0 in v2);v1)");
        e.beyond("a ) ends what is behind else", Check.written(x, 0, 1), "((if v0 then v1 else 1);v1)");
        e.beyond("and a + behind it is outside", Check.written(x, 0, 2), "((let v1=v0 in v1)+1)");
        cannot(e, "if a then b else c ", "in c");
        cannot(e, "let x=a in b ", "else c");
    }

    private static void sequences(Edges e) {
        e.sentence(3, "same { ; exp } (from the right: a ; b ; c is a ; (b ; c))");
        written(e, "a", "v0");
        written(e, "a;b", "(v0;v1)");
        written(e, "a;b;c", "(v0;(v1;v2))");
        written(e, "a;b;c;a", "(v0;(v1;(v2;v0)))");
        written(e, "(a;b);c", "((v0;v1);v2)");
        written(e, "a<b;b==c", "((v0<v1);(v1==v2))");
        cannot(e, "", ";a");
        cannot(e, "a;", "");
        cannot(e, "a;", ";b");
    }

    private static void comparisons(Edges e) {
        e.sentence(3, "same: sum, sum < sum, sum == sum");
        written(e, "a+b", "(v0+v1)");
        written(e, "a+b<b-c", "((v0+v1)<(v1-v2))");
        written(e, "a+b==b-c", "((v0+v1)==(v1-v2))");
        written(e, "(a<b)<c", "((v0<v1)<v2)");
        written(e, "a==(b<c)", "(v0==(v1<v2))");
        cannot(e, "a<b", "<c");
        cannot(e, "a<b", "==c");
        cannot(e, "a==b", "<c");
        cannot(e, "a==b", "==c");
        cannot(e, "a<", "");
        cannot(e, "", "<a");
        cannot(e, "(", "==a)");
    }

    private static void sums(Edges e) {
        e.sentence(3, "sum: product { + or - product }");
        written(e, "a", "v0");
        written(e, "a+b", "(v0+v1)");
        written(e, "a-b", "(v0-v1)");
        written(e, "a-b+c-a", "(((v0-v1)+v2)-v0)");
        written(e, "a-(b+c)", "(v0-(v1+v2))");
        written(e, "a*b+b*c", "((v0*v1)+(v1*v2))");
        cannot(e, "", "+a");
        cannot(e, "a+", "");
        cannot(e, "a-", "");
        cannot(e, "a+", "+b");
    }

    private static void products(Edges e) {
        e.sentence(3, "product: unary { *, / or % unary }");
        written(e, "a*b", "(v0*v1)");
        written(e, "a/b", "(v0/v1)");
        written(e, "a%b", "(v0%v1)");
        written(e, "a/b*c%a", "(((v0/v1)*v2)%v0)");
        written(e, "a/(b*c)", "(v0/(v1*v2))");
        written(e, "a*-b", "(v0*(-v1))");
        cannot(e, "", "*a");
        cannot(e, "a*", "");
        cannot(e, "a/", "%b");
        cannot(e, "a+", "*b");
    }

    private static void unaries(Edges e) {
        e.sentence(3, "unary: - unary, part");
        written(e, "-a", "(-v0)");
        written(e, "--a", "(-(-v0))");
        written(e, "---1", "(-(-(-1)))");
        written(e, "a--b", "(v0-(-v1))");
        written(e, "-a*b", "((-v0)*v1)");
        written(e, "-a-b", "((-v0)-v1)");
        written(e, "-(a*b)", "(-(v0*v1))");
        cannot(e, "-", "");
        cannot(e, "-", "+a");
        cannot(e, "-", "if a then b else c");
    }

    private static void parts(Edges e) {
        e.sentence(3, "part: NUMBER, NAME, NAME ( ), NAME ( exp { , exp } ), put ( exp ), ( exp )");
        written(e, "7", "7");
        written(e, "c", "v2");
        written(e, "((c))", "v2");
        written(e, "put(a;b)", "put((v0;v1))");
        written(e, "f(a,b;c,let x=a in x)", "f(v0,(v1;v2),(let v3=v0 in v3))");
        e.within("NAME ( )", Check.written(Check.reading("def f()=f ( )."), 0, 0), "f()");
        e.within("NAME ( exp )", Check.written(Check.reading("def f(a)=f ( a )."), 0, 0), "f(v0)");
        e.within("six arguments", Check.written(Check.reading("def f(a,b,c,d,e,g)=f(g,e,d,c,b,a)."), 0, 0), "f(v5,v4,v3,v2,v1,v0)");
        cannot(e, "", "");
        cannot(e, "(", ")");
        cannot(e, "(a", "");
        cannot(e, "(a", ",b)");
        cannot(e, "a", ")");
        cannot(e, "put ", "a");
        cannot(e, "put(", ")");
        cannot(e, "put(a", ",b)");
        cannot(e, "put(a", "");
        cannot(e, "f(", ",a,b)");
        cannot(e, "f(a,b,", ")");
        cannot(e, "f(a,b,c", "");
        cannot(e, "f(a,", ",c)");
        cannot(e, "a ", "b");
        cannot(e, "1 ", "(a)");
        cannot(e, "(a)", "(b)");
        cannot(e, "f(a,b,c)", "(a)");
    }
}
