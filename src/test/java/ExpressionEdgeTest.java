/** Promises 7, 10 and 11 with EXPRESSIONS: SIZE, VARIABLES, what is WRITTEN, and what function() refuses. */
public final class ExpressionEdgeTest {
    private static final String LET = "(let x=a in x)+";

    public static void main(String[] args) {
        look(new Edges()).finish();
    }

    static Edges look(Edges e) {
        return e.all(
            ExpressionEdgeTest::sizes, ExpressionEdgeTest::parameters, ExpressionEdgeTest::variables,
            ExpressionEdgeTest::variablesOfTheOutput, ExpressionEdgeTest::callsLeft, ExpressionEdgeTest::callsReplaced,
            ExpressionEdgeTest::sourceAndOutput, ExpressionEdgeTest::refusedFunctions, ExpressionEdgeTest::blanksWritten,
            ExpressionEdgeTest::numbersWritten, ExpressionEdgeTest::variablesWritten, ExpressionEdgeTest::operationsWritten,
            ExpressionEdgeTest::callsWritten, ExpressionEdgeTest::howManyBytes, ExpressionEdgeTest::tooManyBytes,
            ExpressionEdgeTest::bytesWritten);
    }

    private static void size(Edges e, String exp, int want) {
        e.within("SIZE of <" + exp + ">", Check.reading("def f(a)=" + exp + ".def g()=1.").function(0, 0, 0), want);
    }

    private static void sizes(Edges e) {
        e.sentence(7, "SIZE is how many there are.");
        size(e, "1", 1);
        size(e, "a", 1);
        size(e, "g()", 1);
        size(e, "((a))", 1);
        for (String two : new String[] {"+", "-", "*", "/", "%", "<", "==", ";"}) {
            size(e, "a" + two + "1", 3);
        }
        size(e, "-a", 2);
        size(e, "put(a)", 2);
        size(e, "f(a)", 2);
        size(e, "if a then 1 else 2", 4);
        size(e, "let x=a in x", 3);
        size(e, "a+".repeat(199) + "-a", 400);
        TailTrimmer x = Check.reading("def s()=1+2.def f()=s()*s().");
        e.within("SIZE of the output of mode 0", x.function(1, 1, 0), 3);
        x.trim(1);
        e.beyond("SIZE of the output of mode 1", x.function(1, 1, 0), 7);
        e.within("SIZE of what was read stays", x.function(0, 1, 0), 3);
        x.trim(3);
        e.beyond("SIZE of the output of mode 3", x.function(1, 1, 0), 1);
    }

    private static void parameters(Edges e) {
        e.sentence(7, "1 parameters,");
        String[] lists = {"", "a", "a,b", "a,b,c", "a,b,c,d", "a,b,c,d,e", "a,b,c,d,e,g"};
        for (int count = 0; count <= 6; count++) {
            TailTrimmer x = Check.reading("def s(p)=p.def f(" + lists[count] + ")=let x=1 in s(x).");
            e.within("of " + count, x.function(0, 1, 1), count);
            x.trim(7);
            e.beyond("of the output, which has more variables", x.function(1, 1, 1), count);
        }
    }

    private static void variables(Edges e) {
        e.sentence(7, "VARIABLES of a function are numbered: parameters 0 .. , then those of lets as they stand in the text.");
        e.within("none", Check.reading("def f()=1.").function(0, 0, 2), 0);
        e.within("six parameters", Check.reading("def f(a,b,c,d,e,g)=1.").function(0, 0, 2), 6);
        e.within("40 lets", Check.reading("def f()=" + "(let x=1 in x)+".repeat(40) + "1.").function(0, 0, 2), 40);
        TailTrimmer most = Check.reading("def f(a,b,c,d,e,g)=" + LET.repeat(40) + "g.");
        e.within("six parameters and 40 lets", most.function(0, 0, 2), 46);
        e.within("parameters", most.function(0, 0, 1), 6);
        int length = most.write(0, 0);
        e.within("the first and last of them", part(most, length - 25, length), "(let v45=v0 in v45))+v5)");
        e.beyond("of one without them", Check.reading("def f(a,b,c,d,e,g)=a;1.").function(0, 0, 2), 6);
        e.within("as they stand", Check.written(Check.reading("def f(a)=let x=(let y=a in y) in let z=x in let x=z in x."), 0, 0),
            "(let v1=(let v2=v0 in v2) in (let v3=v1 in (let v4=v3 in v4)))");
    }

    /** The bytes from .. to of what was written latest, without those before the text that is there. */
    private static String part(TailTrimmer x, int from, int to) {
        StringBuilder all = new StringBuilder();
        for (int i = from; i < to; i++) {
            all.append((char) x.octet(i));
        }
        return all.substring(Math.max(0, all.indexOf("(")));
    }

    private static void variablesOfTheOutput(Edges e) {
        e.sentence(7, "2 VARIABLES (of the output also those that came and went by FOLD)");
        TailTrimmer x = Check.reading("def s(p)=let q=p in q+1.def f(a)=let b=2 in s(b)+s(3).");
        e.within("as it was read", x.function(0, 1, 2), 2);
        e.within("of mode 0", x.function(1, 1, 2), 2);
        x.trim(1);
        e.within("of mode 1", x.function(1, 1, 2), 6);
        x.trim(2);
        e.within("of mode 2", x.function(1, 1, 2), 2);
        e.beyond("its let has gone", Check.written(x, 1, 1), "(s(2)+s(3))");
        x.trim(3);
        e.within("of mode 3", x.function(1, 1, 2), 6);
        e.beyond("all its lets have gone", Check.written(x, 1, 1), "7");
        e.within("what was read stays", x.function(0, 1, 2), 2);
    }

    private static void callsLeft(Edges e) {
        e.sentence(7, "3 calls");
        e.within("none", Check.reading("def f()=1.").function(0, 0, 3), 0);
        e.within("of itself", Check.reading("def f()=f().").function(0, 0, 3), 1);
        e.within("in one another", Check.reading("def f(a)=f(f(f(a)))+f(1).").function(0, 0, 3), 4);
        e.within("none before one that is a call", Check.reading("def f()=1.def g()=f().").function(0, 0, 3), 0);
        TailTrimmer x = Check.reading("def s()=1.def f()=s()+f()+s().");
        e.within("of what was read", x.function(0, 1, 3), 3);
        x.trim(1);
        e.beyond("of the output", x.function(1, 1, 3), 1);
        e.within("of what was read, still", x.function(0, 1, 3), 3);
    }

    private static void callsReplaced(Edges e) {
        e.sentence(7, "7 calls that were REPLACED in it (0).");
        TailTrimmer x = Check.reading("def s()=1.def f()=s()+s().def g()=f()+s().");
        for (int f = 0; f < 3; f++) {
            e.within("before trim(), of what was read", x.function(0, f, 7), 0);
            e.within("before trim()", x.function(1, f, 7), 0);
        }
        e.within("trim(1)", x.trim(1), 4);
        int[] want = {0, 2, 2};
        for (int f = 0; f < 3; f++) {
            e.beyond("of the output", x.function(1, f, 7), want[f]);
            e.within("of what was read", x.function(0, f, 7), 0);
        }
        x.trim(6);
        for (int f = 0; f < 3; f++) {
            e.within("of the output made anew", x.function(1, f, 7), 0);
        }
        x.trim(1);
        x.read();
        e.within("of the output behind read()", x.function(1, 1, 7), 0);
    }

    private static void sourceAndOutput(Edges e) {
        e.sentence(7, "Of a function as it was read (which = 0) or of the output (1):");
        TailTrimmer x = Check.reading("def s(p)=p*2.def f(a,b)=s(a);s(a+b).");
        int[] read = {7, 2, 2, 2, 2 + 2 + 2, 8, 6 + 5, 0};
        x.trim(1);
        // (let v2=v0 in (v2*2));(let v3=(v0+v1) in (v3*2)), SLOTS 0 .. 2.
        int[] made = {13, 2, 4, 0, 2 + 3 + 2, 14, 7, 2};
        for (int what = 0; what < 8; what++) {
            e.within("function(0, 1, " + what + ")", x.function(0, 1, what), read[what]);
            e.beyond("function(1, 1, " + what + ")", x.function(1, 1, what), made[what]);
        }
    }

    private static void refusedFunctions(Edges e) {
        e.sentence(7, "-1 no such which, or function, -2 no such what.");
        TailTrimmer x = Check.reading("def f()=1.def g()=2.");
        for (int which = 0; which <= 1; which++) {
            for (int f = 0; f <= 1; f++) {
                e.within("function(" + which + ", " + f + ", 0)", x.function(which, f, 0), 1);
                e.within("function(" + which + ", " + f + ", 7)", x.function(which, f, 7), 0);
            }
            for (int f : new int[] {-1, 2, 23, 24, Integer.MIN_VALUE, Integer.MAX_VALUE}) {
                e.beyond("function(" + which + ", " + f + ", 0)", x.function(which, f, 0), -1);
                e.beyond("function(" + which + ", " + f + ", 8)", x.function(which, f, 8), -1);
            }
            for (int what : new int[] {-1, 8, Integer.MIN_VALUE, Integer.MAX_VALUE}) {
                e.beyond("function(" + which + ", 0, " + what + ")", x.function(which, 0, what), -2);
            }
        }
        for (int which : new int[] {-1, 2, Integer.MIN_VALUE, Integer.MAX_VALUE}) {
            e.beyond("function(" + which + ", 0, 0)", x.function(which, 0, 0), -1);
            e.beyond("function(" + which + ", 0, 8)", x.function(which, 0, 8), -1);
            e.beyond("function(" + which + ", 2, 8)", x.function(which, 2, 8), -1);
        }
    }

    private static void blanksWritten(Edges e) {
        e.sentence(10, "WRITTEN is an expression without blanks but one behind let, in, if, then, else and one before in, then, else:");
        TailTrimmer x = Check.reading("def f ( a ) = let  b =\na in  if b\tthen put ( b )  else  a ; b  +  f ( a ) .");
        e.within("with let and if", Check.written(x, 0, 0), "(let v1=v0 in (if v1 then put(v1) else (v0;(v1+f(v0)))))");
        x = Check.reading("def f ( a , b ) = f ( a * b , - a / 2 ) ; a  ==  b ; put ( a < 1 - a % 3 ) .");
        e.beyond("without let and if", Check.written(x, 0, 0), "(f((v0*v1),((-v0)/2));((v0==v1);put((v0<(1-(v0%3))))))");
    }

    private static void folded(Edges e, String exp, String want) {
        TailTrimmer x = Check.reading("def f()=" + exp + ".");
        x.trim(2);
        if (want.startsWith("(")) {
            e.beyond("<" + exp + ">", Check.written(x, 1, 0), want);
        } else {
            e.within("<" + exp + ">", Check.written(x, 1, 0), want);
        }
    }

    private static void numbersWritten(Edges e) {
        e.sentence(10, "numbers (those below 0 as (-5), the least one as (-2147483648))");
        for (String number : new String[] {"0", "1", "5", "9", "10", "99", "100", "999999999", "1000000000", "2147483646", "2147483647"}) {
            folded(e, number, number);
            folded(e, "-" + number, number.equals("0") ? "0" : "(-" + number + ")");
        }
        folded(e, "0-1", "(-1)");
        folded(e, "-2147483647-1", "(-2147483648)");
        folded(e, "-2147483647-2", "2147483647");
        folded(e, "2147483647+1", "(-2147483648)");
        e.beyond("code of the least one", leastConst(), Integer.MIN_VALUE);
    }

    private static int leastConst() {
        TailTrimmer x = Check.reading("def f()=-2147483647-1.");
        x.trim(2);
        return x.code(1, 0, 0, 1);
    }

    private static void variablesWritten(Edges e) {
        e.sentence(10, "v and a variable's number");
        TailTrimmer x = Check.reading("def f(a,b,c,d,e,g)=a+b+c+d+e+g.");
        e.within("of parameters", Check.written(x, 0, 0), "(((((v0+v1)+v2)+v3)+v4)+v5)");
        TailTrimmer lets = Check.reading("def f()=" + "let x=1 in ".repeat(12) + "x.");
        e.within("of one and of two digits", Check.written(lets, 0, 0).substring(9 * 13), "(let v9=1 in (let v10=1 in (let v11=1 in v11"
            + ")".repeat(12));
        TailTrimmer most = Check.reading("def f(a)=" + LET.repeat(39) + "1.def h()=f(1);f(2);f(3).");
        most.budget(500);
        most.trim(1);
        int length = most.write(1, 1);
        e.beyond("of three digits", part(most, length - 29, length), "(let v119=v80 in v119))+1))))");
    }

    private static void operationsWritten(Edges e) {
        e.sentence(10, "every + - * / % < == as (a+b) and so on, - as (-a), put(a), (a;b), if a then b else c and let v3=a in b"
            + " with ( and ) around each,");
        for (String two : new String[] {"+", "-", "*", "/", "%", "<", "==", ";"}) {
            TailTrimmer x = Check.reading("def f(a,b)=a" + two + "b.");
            e.within("a" + two + "b", Check.written(x, 0, 0), "(v0" + two + "v1)");
        }
        e.within("-a", Check.written(Check.reading("def f(a)=-a."), 0, 0), "(-v0)");
        e.within("-5", Check.written(Check.reading("def f()=-5."), 0, 0), "(-5)");
        e.within("put(a)", Check.written(Check.reading("def f(a)=put(a)."), 0, 0), "put(v0)");
        e.within("if", Check.written(Check.reading("def f(a)=if a then 1 else 2."), 0, 0), "(if v0 then 1 else 2)");
        e.within("let", Check.written(Check.reading("def f(a,b,c)=let d=a in d."), 0, 0), "(let v3=v0 in v3)");
        e.beyond("no ( around a number", Check.written(Check.reading("def f()=((5))."), 0, 0), "5");
        e.beyond("no ( around a variable", Check.written(Check.reading("def f(a)=((a))."), 0, 0), "v0");
        e.beyond("no ( around put", Check.written(Check.reading("def f(a)=(put((a)))."), 0, 0), "put(v0)");
    }

    private static void callsWritten(Edges e) {
        e.sentence(10, "NAME(a,b)");
        e.within("no argument, one sign", Check.written(Check.reading("def f()=f()."), 0, 0), "f()");
        e.within("one argument", Check.written(Check.reading("def f(a)=f(a)."), 0, 0), "f(v0)");
        e.within("two arguments", Check.written(Check.reading("def f(a,b)=f(a,b)."), 0, 0), "f(v0,v1)");
        e.within("six arguments, eight signs", Check.written(Check.reading("def abcdefg8(a,b,c,d,e,g)=abcdefg8(1,2,3,4,5,6)."), 0, 0),
            "abcdefg8(1,2,3,4,5,6)");
        e.beyond("the NAME of another function", Check.written(Check.reading("def f()=z9().def z9()=1."), 0, 0), "z9()");
    }

    private static void howManyBytes(Edges e) {
        e.sentence(10, "A function's expression is WRITTEN: how many bytes.");
        TailTrimmer x = Check.reading("def f()=7.def g()=77.def h()=7+7.");
        e.within("write(0, 0)", x.write(0, 0), 1);
        e.beyond("octet(1)", x.octet(1), -1);
        e.within("write(0, 1)", x.write(0, 1), 2);
        e.within("write(1, 2)", x.write(1, 2), 5);
        x.trim(2);
        e.beyond("write(1, 2) of another output", x.write(1, 2), 2);
        e.within("write(0, 2)", x.write(0, 2), 5);
    }

    /** So many ifs, as shallow as may be, with calls of b at the leaves. */
    private static String ifs(int count) {
        if (count == 0) {
            return "b()";
        }
        int third = (count - 1) / 3;
        return "if " + ifs(third) + " then " + ifs(third) + " else " + ifs(count - 1 - 2 * third);
    }

    /**
     * An if has 17 bytes beside its parts: 53 of them and 107 that are put for b() have 53 * 17 + 107 * 47 = 5930.
     * Written latest is what was read as b.
     */
    static TailTrimmer longOne(String before, String behind) {
        String b = "def b()=if 2147483647 then 2147483647 else 2147483647.";
        TailTrimmer x = Check.reading(b + "def c()=" + before + "(" + ifs(53) + ")" + behind + ".");
        x.trim(1);
        x.write(0, 0);
        return x;
    }

    private static void tooManyBytes(Edges e) {
        e.sentence(10, "-1 no such which, or function, -4 more than 6000.");
        TailTrimmer x = longOne("put(".repeat(14), ")".repeat(14));
        e.within("6000 bytes", x.write(1, 1), 6000);
        e.within("the last one", x.octet(5999), ')');
        e.within("none behind it", x.octet(6000), -1);
        x = longOne("--" + "put(".repeat(13), ")".repeat(13));
        e.beyond("6001 bytes", x.write(1, 1), -4);
        e.beyond("what was written before stays", x.octet(46), ')');
        e.beyond("and is no longer", x.octet(47), -1);
        e.beyond("its first byte", x.octet(1), 'i');
        e.within("the source of it", x.write(0, 1) > 0 ? 1 : 0, 1);
        for (int which : new int[] {-1, 2, Integer.MIN_VALUE, Integer.MAX_VALUE}) {
            e.beyond("write(" + which + ", 1): the first that fits", x.write(which, 1), -1);
        }
        for (int f : new int[] {-1, 2, 24, Integer.MIN_VALUE, Integer.MAX_VALUE}) {
            e.beyond("write(0, " + f + ")", x.write(0, f), -1);
            e.beyond("write(1, " + f + ")", x.write(1, f), -1);
        }
    }

    private static void bytesWritten(Edges e) {
        e.sentence(11, "Byte i of what was written latest. -1 there is none.");
        TailTrimmer x = Check.reading("def f(a)=a+1.def g()=7.");
        e.beyond("before write()", x.octet(0), -1);
        x.write(0, 0);
        String want = "(v0+1)";
        for (int i = 0; i < want.length(); i++) {
            e.within("octet(" + i + ")", x.octet(i), want.charAt(i));
        }
        for (int i : new int[] {-1, 6, 7, 5999, 6000, 6001, Integer.MIN_VALUE, Integer.MAX_VALUE}) {
            e.beyond("octet(" + i + ")", x.octet(i), -1);
        }
        x.write(1, 1);
        e.within("octet(0) of the latest", x.octet(0), '7');
        e.beyond("octet(1) of the latest", x.octet(1), -1);
        e.beyond("a refused write()", x.write(0, 2), -1);
        e.within("what was written latest", x.octet(0), '7');
        x.feed(0, 0);
        x.read();
        e.within("also when its function has gone", x.octet(0), '7');
    }
}
