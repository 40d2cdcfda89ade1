/** Promises 1 and 2, and the tokens of promise 3: the sentences that name a boundary. */
public final class TokenEdgeTest {
    private static final String SIGNS = "(),;=+-*/%<.";
    private static final String[] WORDS = {"def", "let", "in", "if", "then", "else", "put"};

    public static void main(String[] args) {
        look(new Edges()).finish();
    }

    static Edges look(Edges e) {
        return e.all(
            TokenEdgeTest::newObject, TokenEdgeTest::calls, TokenEdgeTest::fedBytes, TokenEdgeTest::emptied,
            TokenEdgeTest::fedCounts, TokenEdgeTest::textBytes, TokenEdgeTest::blanks, TokenEdgeTest::longest,
            TokenEdgeTest::names, TokenEdgeTest::words, TokenEdgeTest::numbers, TokenEdgeTest::signs);
    }

    private static void newObject(Edges e) {
        e.sentence(1, "No text, no functions, budget 20; arguments 0.");
        TailTrimmer x = new TailTrimmer();
        e.within("feed(46, 1) of a new object", x.feed(46, 1), 1);
        e.beyond("feed(46, 1) behind it", x.feed(46, 1), 2);
        x = new TailTrimmer();
        e.within("read() of no text", x.read(), 0);
        for (int which = 0; which < 2; which++) {
            TailTrimmer y = new TailTrimmer();
            e.within("function of a new object", y.function(which, 0, 0), -1);
            e.within("write of a new object", y.write(which, 0), -1);
            e.within("code of a new object", y.code(which, 0, 0, 0), -1);
            e.within("run of a new object", y.run(which, 0, 9, 9), -1);
            e.beyond("function of one that has read", Check.reading("def f()=1.").function(which, 0, 0), 1);
        }
        e.within("order of a new object", new TailTrimmer().order(0), -1);
        e.within("calls of a new object", new TailTrimmer().calls(0, 0, 0), -1);
        for (int mode = 0; mode < 8; mode++) {
            e.within("trim of a new object", new TailTrimmer().trim(mode), 0);
        }
        e.within("budget of a new object", new TailTrimmer().budget(7), 20);
        e.within("SIZE 20 is within it", Check.reading("def f(a)=" + "a+".repeat(9) + "-a.def g()=f(1).").trim(1), 1);
        e.beyond("SIZE 21 is not", Check.reading("def f(a)=" + "a+".repeat(10) + "a.def g()=f(1).").trim(1), 0);
        TailTrimmer six = Check.reading("def f(a,b,c,d,e,g)=if a==0 then b+c+d+e+g else 9.");
        e.within("run with the arguments of a new object", six.run(0, 0, 99, 99), 1);
        e.within("its value", six.told(0), 0);
        for (int i = 0; i < 6; i++) {
            e.within("argument " + i + " of a new object", six.argument(i, 0), 0);
        }
        six.argument(5, 7);
        six.run(0, 0, 99, 99);
        e.beyond("the value with another argument", six.told(0), 7);
    }

    private static void calls(Edges e) {
        e.sentence(1, "An object is used for at most 512 calls after it has been made; what later calls answer is free.");
        TailTrimmer x = new TailTrimmer();
        for (int i = 1; i <= 200; i++) {
            e.within("call " + i, x.feed(32, 1), i);
        }
        for (int i = 201; i <= 511; i++) {
            e.within("call " + i, x.argument(i % 6, i), i < 207 ? 0 : i - 6);
        }
        e.within("call 512", x.feed(32, 1), 201);
        x.feed(32, 1);
        x.read();
        e.beyond("later calls end", 513, 513);
    }

    private static void fedBytes(Edges e) {
        e.sentence(2, "The n lowest bytes of v, the highest first, come behind THE TEXT: how many it has;");
        TailTrimmer x = new TailTrimmer();
        e.within("feed of def f()= as 8 bytes", x.feed(0x646566206628293dL, 8), 8);
        e.within("feed of 1. as 2 bytes", x.feed(0x312eL, 2), 10);
        e.within("read()", x.read(), 1);
        for (int n = 1; n <= 8; n++) {
            long top = 0x24L << 8 * (n - 1);
            long blanks = 0x2020202020202020L & (top >>> 2) - 1;
            x = new TailTrimmer();
            x.feed(top | blanks, n);
            e.within("read() when byte " + n + " of " + n + " is $", x.read(), -11);
            e.within("place() when byte " + n + " of " + n + " is $", x.place(), 0);
            x = new TailTrimmer();
            x.feed(0x2020202020202020L ^ 4, n);
            e.within("read() when the lowest byte of " + n + " is $", x.read(), -11);
            e.within("place() when the lowest byte of " + n + " is $", x.place(), n - 1);
            if (n < 8) {
                x = new TailTrimmer();
                e.beyond("feed of " + n + " below a $", x.feed(0x2424242424242424L << 8 * n | 0x2020202020202020L >>> 64 - 8 * n, n), n);
                e.beyond("read() of " + n + " blanks", x.read(), 0);
            }
        }
        x = new TailTrimmer();
        e.within("feed of a v below 0", x.feed(Long.MIN_VALUE, 8), 8);
        e.within("read() of byte 128", x.read(), -11);
        e.within("place() of byte 128", x.place(), 0);
        x = new TailTrimmer();
        x.feed(0x20202020202020a0L, 8);
        e.within("read() of byte 160, which is a blank without its highest bit", x.read(), -11);
        e.within("place() of byte 160", x.place(), 7);
    }

    private static void emptied(Edges e) {
        e.sentence(2, "with n = 0 it is empty: 0.");
        TailTrimmer x = new TailTrimmer();
        e.within("feed(-1, 0) of no text", x.feed(-1, 0), 0);
        x.feed(0x24, 1);
        e.within("feed(-1, 0) of one byte", x.feed(-1, 0), 0);
        e.within("read() of what was emptied", x.read(), 0);
        x.feed(0x24, 1);
        e.beyond("feed(0, 1) does not empty", x.feed(0, 1), 2);
        e.beyond("read() of what was not emptied", x.read(), -11);
        // What is behind the text's end is not of the text, even if it was of another one.
        String[][] shorter = {{"def abc()=1.", "def a"}, {"def f()=123.", "def f()=1"}, {"def f()==", "def f()="}};
        for (String[] two : shorter) {
            x = new TailTrimmer();
            Check.lay(x, two[0]);
            Check.lay(x, two[1]);
            e.within("read() of a shorter text", x.read(), -12);
            e.within("place() at its end", x.place(), two[1].length());
        }
        TailTrimmer full = filled(3000);
        e.within("feed(0, 0) of a full text", full.feed(0, 0), 0);
        e.within("feed behind it", full.feed(32, 8), 8);
    }

    private static void fedCounts(Edges e) {
        e.sentence(2, "-2 n is not 0 .. 8, -4.");
        for (int n = 0; n <= 8; n++) {
            e.within("feed(0, " + n + ")", new TailTrimmer().feed(0, n), n);
        }
        for (int n : new int[] {-1, 9, 16, 256, 257, Integer.MIN_VALUE, Integer.MIN_VALUE + 1, Integer.MAX_VALUE}) {
            TailTrimmer x = new TailTrimmer();
            e.beyond("feed(0, " + n + ")", x.feed(0, n), -2);
            e.beyond("no byte has come", x.feed(0, 1), 1);
        }
        for (int n = 1; n <= 8; n++) {
            e.within("feed of " + n + " to 3000", filled(3000 - n).feed(0, n), 3000);
            TailTrimmer x = filled(3001 - n);
            e.beyond("feed of " + n + " to 3001", x.feed(0, n), -4);
            e.beyond("no byte has come", x.feed(0, n - 1), n == 1 ? 0 : 3000);
        }
        TailTrimmer full = filled(3000);
        e.beyond("feed(0, 9) of a full text: the first that fits", full.feed(0, 9), -2);
        e.beyond("feed(0, -1) of a full text", full.feed(0, -1), -2);
    }

    private static TailTrimmer filled(int bytes) {
        TailTrimmer x = new TailTrimmer();
        Check.lay(x, " ".repeat(bytes));
        return x;
    }

    private static void textBytes(Edges e) {
        e.sentence(2, "THE TEXT has at most 3000 bytes, places from 0.");
        TailTrimmer x = new TailTrimmer();
        for (int i = 1; i <= 375; i++) {
            e.within("feed " + i, x.feed(0x2020202020202020L, 8), 8 * i);
        }
        e.beyond("byte 3001", x.feed(0x20, 1), -4);
        e.within("read() of 3000 blanks", x.read(), 0);
        e.reads(1, " ".repeat(2990) + "def f()=1.");
        e.faulty(1, "", "$");
        e.faulty(1, " ".repeat(2999), "$");
        e.faulty(2, " ".repeat(2990) + "def f()=12", "");
        e.faulty(2, " ".repeat(2990) + "def f()   ", "");
        e.faulty(2, " ".repeat(2990) + "def    fgh", "");
        e.faulty(2, " ".repeat(2990) + "def f()  =", "");
    }

    private static boolean beginsToken(int c) {
        return c >= 'a' && c <= 'z' || c >= '0' && c <= '9' || SIGNS.indexOf(c) >= 0;
    }

    private static void blanks(Edges e) {
        e.sentence(3, "BLANKS: 9, 10, 13, 32.");
        for (int c = 0; c < 256; c++) {
            if (c == 9 || c == 10 || c == 13 || c == 32) {
                e.reads(1, (char) c + "def f()=1.");
                e.reads(1, "def f()=1." + (char) c);
                e.reads(1, "def" + (char) c + "f(" + (char) c + ")=1" + (char) c + ".");
                e.faulty(2, "def f()=1" + (char) c, "2.");
            } else {
                e.faulty(beginsToken(c) ? 2 : 1, "", (char) c + "def f()=1.");
            }
        }
        e.reads(1, "\t\n\r def \t f \n ( \r a\r\n) = a \t . \n");
        e.faulty(2, "", "de f f()=1.");
        e.faulty(2, "def f(a)=a", "= =a.");
    }

    private static void longest(Edges e) {
        e.sentence(3, "TOKENS, the longest:");
        e.within("a==b", Check.written(Check.reading("def f(a,b)=a==b."), 0, 0), "(v0==v1)");
        e.faulty(2, "def f(a,b)=a==", "=b.");
        e.faulty(2, "def f()", "==1.");
        e.faulty(2, "def f(a)=let x", "==a in x.");
        e.faulty(2, "def f(a)=let x= ", "=a in x.");
        e.within("12 is one NUMBER", Check.written(Check.reading("def f()=12."), 0, 0), "12");
        e.faulty(2, "def f()=1 ", "2.");
        e.within("ifa is one NAME", Check.written(Check.reading("def f(ifa)=ifa."), 0, 0), "v0");
        e.faulty(4, "def f(a)=", "ifa then 1 else 2.");
        e.reads(1, "def in1(then2)=then2.");
        e.faulty(2, "", "deff()=1.");
        e.reads(1, "def f(a)=if 1then a else 2.");
        e.faulty(2, "def f(a)=1", "a.");
    }

    private static void names(Edges e) {
        e.sentence(3, "NAMES (a .. z, then a .. z, 0 .. 9; 8 signs at most;");
        for (String name : new String[] {"a", "z", "aa", "az", "a0", "z9", "abcdefg", "abcdefgh", "a0123456", "zzzzzzz9", "a1b2c3d4"}) {
            e.reads(1, "def " + name + "()=1.");
            e.reads(1, "def f(" + name + ")=" + name + ".");
            e.reads(1, "def f()=let " + name + "=1 in " + name + ".");
            e.reads(1, "def " + name + "()=" + name + "().");
            e.within("NAME of a call", Check.written(Check.reading("def " + name + "()=" + name + "()."), 0, 0), name + "()");
        }
        for (String name : new String[] {"abcdefghi", "abcdefgh1", "a01234567", "aaaaaaaaaaaaaaaaa", "letlet123", "a23456789def"}) {
            e.faulty(1, "def ", name + "()=1.");
            e.faulty(1, "def f(", name + ")=1.");
            e.faulty(1, "def f()=let ", name + "=1 in 1.");
            e.faulty(1, "def f()=", name + ".");
            e.faulty(1, "def f()=", name + "().");
        }
        for (String sign : new String[] {"`", "{", "A", "Z", "_", "@", "[", "\u00e9"}) {
            e.faulty(1, "def ", sign + "()=1.");
            e.faulty(1, "def a", sign + "()=1.");
        }
        e.faulty(2, "def ", "0a()=1.");
        e.faulty(2, "def ", "9()=1.");
        e.faulty(2, "def a", "/()=1.");
        e.faulty(1, "def a", ":()=1.");
        e.reads(4, "def abcdefg1()=1.def abcdefg2()=1.def bbcdefg1()=1.def abcdefg()=1.");
        e.faulty(3, "def abcdefg1()=1.def ", "abcdefg1()=1.");
    }

    private static void words(Edges e) {
        e.sentence(3, "def let in if then else put are WORDS");
        for (String word : WORDS) {
            e.faulty(2, "def ", word + "()=1.");
            e.faulty(2, "def f(", word + ")=1.");
            e.faulty(2, "def f()=let ", word + "=1 in 1.");
            String more = word + "s";
            String less = word.substring(0, word.length() - 1);
            String other = "x" + word;
            for (String name : new String[] {more, less, other, word + "0"}) {
                e.reads(1, "def " + name + "()=1.");
                e.reads(1, "def f(" + name + ")=let " + name + "=1 in " + name + ".");
            }
        }
        e.faulty(2, "def f()=", "in.");
        e.faulty(2, "def f()=", "then.");
        e.faulty(2, "def f()=", "else.");
        e.faulty(2, "def f()=", "def.");
    }

    private static void numbers(Edges e) {
        e.sentence(3, "NUMBERS (1 to 10 digits, at most 2147483647)");
        String[][] good = {{"0", "0"}, {"9", "9"}, {"0000000000", "0"}, {"0000000001", "1"}, {"999999999", "999999999"},
            {"1000000000", "1000000000"}, {"2147483646", "2147483646"}, {"2147483647", "2147483647"}, {"0999999999", "999999999"}};
        for (String[] one : good) {
            e.reads(1, "def f()=" + one[0] + ".");
            TailTrimmer x = Check.reading("def f()=" + one[0] + ".");
            e.within(one[0] + " written", Check.written(x, 0, 0), one[1]);
            e.within(one[0] + " in code", x.code(0, 0, 0, 1), Long.parseLong(one[1]));
        }
        String[] bad = {"2147483648", "2147483657", "3000000000", "4294967296", "4294967297", "9999999999", "00000000000",
            "00000000001", "02147483647", "10000000000", "18446744073709551617", "99999999999999999999999999"};
        for (String one : bad) {
            e.faulty(1, "def f()=", one + ".");
            e.faulty(1, "def f(a)=a+", one + "+a.");
        }
    }

    private static void signs(Edges e) {
        e.sentence(3, "SIGNS ( ) , ; = + - * / % < == .");
        e.reads(1, "def f(a,b)=let c=(a+b)*-a/b%a-b in c<a;c==b.");
        for (int c = 0; c < 256; c++) {
            boolean blank = c == 9 || c == 10 || c == 13 || c == 32;
            if (!beginsToken(c) && !blank) {
                e.faulty(1, "def f()=1", (char) c + "1.");
            }
        }
        for (String sign : new String[] {"+", "-", "*", "/", "%", "<", "==", ";"}) {
            e.reads(1, "def f()=1" + sign + "1.");
            e.within("1" + sign + "1", Check.written(Check.reading("def f()=1" + sign + "1."), 0, 0), "(1" + sign + "1)");
        }
        e.faulty(2, "def f()=1<", "=1.");
        e.faulty(2, "def f()=1", "=1.");
        e.faulty(1, "def f()=1", "!=1.");
    }
}
