/** The promises one by one, with answers worked out by hand from the document. */
public final class PromiseTest {
    private static final int NONE = Due.NONE;
    private static final int FULL = Due.FULL;
    private static final int FIXED = Due.FIXED;
    private static final int CONFLICT = Due.CONFLICT;
    private static final int[] FAR = Due.FAR;

    private static final Due DUE = new Due();

    public static void main(String[] args) {
        newObject();
        editReplaces();
        editRefuses();
        lengthAndCharacter();
        tokensOfLines();
        tokensOfIndentation();
        tokenOutside();
        faults();
        faultsOfDepth();
        errors();
        leastErrorFirst();
        extents();
        scopes();
        names();
        kindsOfOccurrences();
        searchPassesClassesAndStops();
        definitions();
        references();
        renames();
        renameRefuses();
        renameConflicts();
        nothingOfUnacceptedText();
        answersFollowTheText();
        DUE.end("PromiseTest");
    }

    // ---- promise 1

    private static void newObject() {
        DUE.is("new length()", new BindingServer().length(), 0);
        DUE.is("new character(0)", new BindingServer().character(0), NONE);
        DUE.is("new tokens()", new BindingServer().tokens(), 1);
        DUE.is("new token(0)", new BindingServer().token(0), 7);
        DUE.is("new check()", new BindingServer().check(), 0);
        DUE.is("new place()", new BindingServer().place(), NONE);
        DUE.is("new extent(0, 0)", new BindingServer().extent(0, 0), NONE);
        DUE.is("new scopes()", new BindingServer().scopes(), 1);
        DUE.is("new scope(0)", new BindingServer().scope(0), 0);
        DUE.is("new names()", new BindingServer().names(), 0);
        DUE.is("new name(0)", new BindingServer().name(0), NONE);
        DUE.is("new resolve(0)", new BindingServer().resolve(0), NONE);
        DUE.is("new definition(0)", new BindingServer().definition(0), NONE);
        DUE.is("new reference(0, 0)", new BindingServer().reference(0, 0), NONE);
        DUE.is("new rename(0, a)", new BindingServer().rename(0, 'a'), NONE);
    }

    // ---- promise 2

    private static void editReplaces() {
        BindingServer x = new BindingServer();
        DUE.is("edit at 0", x.edit(0, 0, Due.eight("abcdefgh")), 8);
        DUE.is("edit at the end", x.edit(8, 0, Due.eight("xyz")), 11);
        DUE.is("edit inside", x.edit(3, 2, Due.eight("123")), 12);
        DUE.same("text", Due.textOf(x), "abc123fghxyz");
        DUE.is("edit that only cuts", x.edit(1, 4, 0), 8);
        DUE.same("text", Due.textOf(x), "a3fghxyz");
        DUE.is("edit that does nothing", x.edit(8, 0, 0), 8);
        DUE.is("zeros are left out anywhere", x.edit(0, 1, 0x4100004200004300L), 10);
        DUE.same("text", Due.textOf(x), "ABC3fghxyz");
        DUE.is("all is cut", x.edit(0, 10, 0), 0);
        DUE.is("least and greatest characters", x.edit(0, 0, 0x0a207eL), 3);
        DUE.same("text", Due.textOf(x), "\n ~");
    }

    private static void editRefuses() {
        BindingServer x = Due.server("abcdef");
        for (int at : new int[] {-1, 7, Integer.MIN_VALUE, Integer.MAX_VALUE}) {
            DUE.is("edit at " + at, x.edit(at, 0, 'z'), NONE);
        }
        for (int cut : new int[] {-1, 5, Integer.MIN_VALUE, Integer.MAX_VALUE}) {
            DUE.is("edit cut " + cut, x.edit(2, cut, 'z'), NONE);
        }
        for (long bad : new long[] {1, 9, 11, 13, 31, 127, 128, 255, -1L, 0x6100000000000001L,
            0x8000000000000000L, 0x61ff00L}) {
            DUE.is("edit with byte of " + bad, x.edit(0, 0, bad), NONE);
        }
        DUE.same("refused edits change nothing", Due.textOf(x), "abcdef");
        BindingServer full = Due.server("a".repeat(200));
        DUE.is("200 characters", full.length(), 200);
        DUE.is("201 characters", full.edit(200, 0, 'z'), FULL);
        DUE.is("201 characters inside", full.edit(7, 1, Due.eight("zz")), FULL);
        DUE.is("NONE comes before FULL", full.edit(0, 0, Due.eight("zz") << 8 | 1), NONE);
        DUE.is("NONE for place before FULL", full.edit(201, 0, 'z'), NONE);
        DUE.same("refused edits change nothing", Due.textOf(full), "a".repeat(200));
        DUE.is("as much in as out", full.edit(0, 8, Due.eight("bcdefghi")), 200);
        DUE.same("text", Due.textOf(full), "bcdefghi" + "a".repeat(192));
        DUE.is("room again", full.edit(0, 200, 'z'), 1);
        BindingServer near = Due.server("a".repeat(193));
        DUE.is("to 200 from 193 by 8", near.edit(0, 0, Due.eight("bbbbbbbb")), FULL);
        DUE.is("to 200 from 193 by 7", near.edit(0, 0, Due.eight("bbbbbbb")), 200);
    }

    // ---- promises 3 and 4

    private static void lengthAndCharacter() {
        BindingServer x = Due.server("a\n~");
        DUE.is("length()", x.length(), 3);
        DUE.is("character(0)", x.character(0), 'a');
        DUE.is("character(1)", x.character(1), 10);
        DUE.is("character(2)", x.character(2), '~');
        DUE.is("character(3)", x.character(3), NONE);
        for (int p : FAR) {
            DUE.is("character(" + p + ")", x.character(p), NONE);
        }
        DUE.is("character behind a cut", cutAt(x, 1, 2), NONE);
    }

    private static int cutAt(BindingServer x, int at, int cut) {
        x.edit(at, cut, 0);
        return x.character(at);
    }

    // ---- promises 5 and 6

    private static void tokensOfLines() {
        DUE.rowIs("", "END0-0");
        DUE.rowIs("  \n # a\n\n", "END9-9");
        DUE.rowIs("aZ_9 _", "NAME0-4 NAME5-6 NEWLINE6-6 END6-6");
        DUE.rowIs("1a", "NUMBER0-1 NAME1-2 NEWLINE2-2 END2-2");
        DUE.rowIs("a1 12if", "NAME0-2 NUMBER3-5 WORD5-7 NEWLINE7-7 END7-7");
        DUE.rowIs("0 90", "NUMBER0-1 NUMBER2-4 NEWLINE4-4 END4-4");
        DUE.rowIs("12_3", "NUMBER0-2 NAME2-4 NEWLINE4-4 END4-4");
        DUE.rowIs("::=", "SIGN0-1 SIGN1-3 NEWLINE3-3 END3-3");
        DUE.rowIs(":==", "SIGN0-2 SIGN2-3 NEWLINE3-3 END3-3");
        DUE.rowIs(": =", "SIGN0-1 SIGN2-3 NEWLINE3-3 END3-3");
        DUE.rowIs("[](),+", "SIGN0-1 SIGN1-2 SIGN2-3 SIGN3-4 SIGN4-5 SIGN5-6 NEWLINE6-6 END6-6");
        DUE.rowIs("a?$-", "NAME0-1 BAD1-2 BAD2-3 BAD3-4 NEWLINE4-4 END4-4");
        DUE.rowIs("a #(\nb", "NAME0-1 NEWLINE1-1 NAME5-6 NEWLINE6-6 END6-6");
        DUE.rowIs("a  \n", "NAME0-1 NEWLINE1-1 END4-4");
        DUE.rowIs("(\n a # )\n)\nb", "SIGN0-1 NAME3-4 SIGN9-10 NEWLINE10-10 NAME11-12 NEWLINE12-12 END12-12");
        DUE.rowIs("[\n\n", "SIGN0-1 NEWLINE1-1 END3-3");
        DUE.rowIs("(]\na", "SIGN0-1 SIGN1-2 NEWLINE2-2 NAME3-4 NEWLINE4-4 END4-4");
        DUE.rowIs(")(\na", "SIGN0-1 SIGN1-2 NAME3-4 NEWLINE4-4 END4-4");
        for (String word : new String[] {"class", "def", "del", "else", "for", "global", "if", "import",
            "in", "lambda", "nonlocal", "pass", "return", "while"}) {
            int n = word.length();
            DUE.rowIs(word, "WORD0-" + n + " NEWLINE" + n + "-" + n + " END" + n + "-" + n);
            DUE.is(word + "_ is a name", Due.server(word + "_").token(0) & 15, 0);
            DUE.is("_" + word + " is a name", Due.server("_" + word).token(0) & 15, 0);
        }
        DUE.is("Class is a name", Due.server("Class").token(0) & 15, 0);
        DUE.is("nonlocal1 is a name", Due.server("nonlocal1").token(0), 9 * 4096);
    }

    private static void tokensOfIndentation() {
        DUE.rowIs(" a\nb", "INDENT1-1 NAME1-2 NEWLINE2-2 DEDENT3-3 NAME3-4 NEWLINE4-4 END4-4");
        DUE.rowIs("a\n  b\n c\n d", "NAME0-1 NEWLINE1-1 INDENT4-4 NAME4-5 NEWLINE5-5 DEDENT7-7 BAD7-7"
            + " NAME7-8 NEWLINE8-8 INDENT10-10 NAME10-11 NEWLINE11-11 DEDENT11-11 END11-11");
        DUE.rowIs("a\n b\n  c\nd", "NAME0-1 NEWLINE1-1 INDENT3-3 NAME3-4 NEWLINE4-4 INDENT7-7 NAME7-8"
            + " NEWLINE8-8 DEDENT9-9 DEDENT9-9 NAME9-10 NEWLINE10-10 END10-10");
        DUE.rowIs(" a\n  b\n", "INDENT1-1 NAME1-2 NEWLINE2-2 INDENT5-5 NAME5-6 NEWLINE6-6"
            + " DEDENT7-7 DEDENT7-7 END7-7");
        DUE.rowIs(" a\n   # x\n\n b", "INDENT1-1 NAME1-2 NEWLINE2-2 NAME12-13 NEWLINE13-13"
            + " DEDENT13-13 END13-13");
        DUE.rowIs("  1\n ?", "INDENT2-2 NUMBER2-3 NEWLINE3-3 DEDENT5-5 BAD5-5 BAD5-6 NEWLINE6-6 END6-6");
        String saw = "a\n a\n".repeat(40);
        BindingServer x = Due.server(saw);
        DUE.is("tokens() of a full saw", x.tokens(), 241);
        DUE.is("its last", x.token(240), 7 + 16 * 200 + 4096 * 200);
        DUE.is("tokens() of 200 signs", Due.server("+".repeat(200)).tokens(), 202);
    }

    private static void tokenOutside() {
        BindingServer x = Due.server("a");
        DUE.is("tokens()", x.tokens(), 3);
        DUE.is("token(2)", x.token(2), 7 + 16 + 4096);
        DUE.is("token(3)", x.token(3), NONE);
        for (int k : FAR) {
            DUE.is("token(" + k + ")", x.token(k), NONE);
        }
    }

    // ---- promises 7 and 8

    private static void faults() {
        DUE.fine("", "pass", "pass\n", "global a,b\n", "del a", "import a", "a=lambda:a", "a+1+(b)+[c]",
            "1(2)(3,4)()", "[a for b in c]", "(a:=lambda b,c:d)", "f((a:=1))", "f(\n a,\n b\n)\n",
            "def f():pass", "def f(a,b):\n return\n", "class A:pass\n", "if a:b", "if a:b\nelse:c\n",
            "if a:\n if b:\n  c\n else:\n  d\nelse:\n e", "while lambda:a:b", "for a in b:\n c\n d\n",
            "[lambda:a for b in lambda:c]", "f(lambda a,b:c,d)", "[1for a in 1]");
        DUE.checkIs("a b", 20, 2);
        DUE.checkIs("a=b=c", 20, 3);
        DUE.checkIs("(a)=b", 20, 3);
        DUE.checkIs("a+", 20, 2);
        DUE.checkIs("a+lambda:b", 20, 2);
        DUE.checkIs("()", 20, 1);
        DUE.checkIs("[]", 20, 1);
        DUE.checkIs("[a,b]", 20, 2);
        DUE.checkIs("[a:=b]", 20, 2);
        DUE.checkIs("f(a:=b)", 20, 3);
        DUE.checkIs("f(a,)", 20, 4);
        DUE.checkIs("(a+b:=c)", 20, 4);
        DUE.checkIs("(a", 20, 2);
        DUE.checkIs("(a\n\n", 20, 2);
        DUE.checkIs("[a for b in c)", 20, 13);
        DUE.checkIs("[a for 1 in c]", 20, 7);
        DUE.checkIs("global", 20, 6);
        DUE.checkIs("global a,", 20, 9);
        DUE.checkIs("del a,b", 20, 5);
        DUE.checkIs("pass pass", 20, 5);
        DUE.checkIs("return pass", 20, 7);
        DUE.checkIs("def f:pass", 20, 5);
        DUE.checkIs("def f(a,):pass", 20, 8);
        DUE.checkIs("def f(1):pass", 20, 6);
        DUE.checkIs("def f()pass", 20, 7);
        DUE.checkIs("lambda a,:b", 20, 9);
        DUE.checkIs("class A():pass", 20, 7);
        DUE.checkIs("if a:if b:c", 20, 5);
        DUE.checkIs("if a:", 20, 5);
        DUE.checkIs("if a:\n", 20, 6);
        DUE.checkIs("if a:\nb", 20, 6);
        DUE.checkIs("else:a", 20, 0);
        DUE.checkIs("while a:b\nelse:c", 20, 10);
        DUE.checkIs("if a:b\nelse:c\nelse:d", 20, 14);
        DUE.checkIs("if a:b\nelse c", 20, 12);
        DUE.checkIs("a\n b", 20, 3);
        DUE.checkIs(" a", 20, 1);
        DUE.checkIs("if a:\n   b\n  c", 20, 13);
        DUE.checkIs("def pass\n)", 20, 4);
        DUE.checkIs("class pass\n)", 20, 6);
        DUE.checkIs("[a for pass in b\n)", 20, 7);
        DUE.checkIs("a ?", 20, 2);
        DUE.checkIs("?", 20, 0);
        DUE.checkIs("in", 20, 0);
        DUE.checkIs("a]", 20, 1);
        DUE.checkIs("(a]\n)", 20, 2);
    }

    private static void faultsOfDepth() {
        DUE.fine("((((((((((a))))))))))", "[[[[[[[[[[a]]]]]]]]]]", "f(f(f(f(f(f(f(f(f(f())))))))))");
        DUE.checkIs("(((((((((((", 21, 10);
        DUE.checkIs("[[[[[[[[[[[", 21, 10);
        DUE.checkIs("((((((((((a(", 21, 11);
        DUE.checkIs("((((((((((a[", 20, 11);
        DUE.checkIs("((((((((((+(", 20, 10);
        DUE.checkIs("((((((((((a+(", 21, 12);
        DUE.checkIs("((((((((((lambda:a", 21, 10);
        DUE.checkIs("((((((((((a+lambda:a", 20, 12);
        DUE.checkIs("a=(((((((((((", 21, 12);
        DUE.checkIs("f(".repeat(11), 21, 21);
        DUE.checkIs("f(a,".repeat(11), 21, 41);
        DUE.checkIs("(a:=".repeat(11), 21, 40);
        DUE.checkIs("[a for b in ".repeat(11), 21, 120);
        DUE.checkIs("[".repeat(10) + "(a) for b in c]", 21, 10);
        DUE.checkIs("[[[[[[[[[(a) for b in(((c", 21, 22);
        DUE.fine("[[[[[[[[[(a) for b in(c)]]]]]]]]]", "f(f(f(f(f(f(f(f(f((a),[b]+c())))))))))");
        DUE.fine("lambda:".repeat(10) + "a", "lambda:".repeat(9) + "(a)+(b)+c()");
        DUE.checkIs("lambda:".repeat(11) + "a", 21, 70);
        DUE.checkIs("lambda:".repeat(10) + "a()", 21, 71);
        DUE.checkIs("if a:((((((((((b", 21, 14);
        DUE.fine("if a:(((((((((b)))))))))\nelse:(((((((((b)))))))))\n((((((((((c))))))))))");
        DUE.fine("def f():(((((((((b)))))))))");
        DUE.checkIs("class f:((((((((((b", 21, 17);
        StringBuilder deep = new StringBuilder();
        for (int i = 0; i < 10; i++) {
            deep.append(" ".repeat(i)).append("if a:\n");
        }
        String ten = deep.toString() + " ".repeat(10);
        DUE.fine(ten + "b", deep.substring(0, deep.length() - 1) + "b\n         else:c");
        DUE.checkIs(ten + "(b)", 21, ten.length());
        DUE.checkIs(ten + "lambda:b", 21, ten.length());
        DUE.checkIs(ten + "if b:c", 21, ten.length() + 4);
        DUE.checkIs(ten + "def f():c", 21, ten.length() + 7);
        DUE.checkIs(ten + "def f()):c", 20, ten.length() + 7);
        DUE.checkIs(ten + "if (b):c", 21, ten.length() + 3);
    }

    private static void errors() {
        DUE.checkIs("def f(a,b,a):pass", 1, 10);
        DUE.checkIs("lambda a,a:b", 1, 9);
        DUE.fine("def f(a):\n def f(a):pass\n", "lambda a:lambda a:b");
        DUE.checkIs("def f(a):\n global a", 2, 18);
        DUE.checkIs("def f(a):\n nonlocal a", 2, 20);
        DUE.checkIs("def f(a):\n class B:\n  global a\n  a=1\n a", 0, NONE);
        DUE.checkIs("a\nglobal a", 3, 9);
        DUE.checkIs("def f():\n a=1\n global a", 3, 22);
        DUE.checkIs("def f():\n [(a:=1) for b in c]\n global a", 3, 38);
        DUE.fine("def f():\n [a for a in c]\n global a", "def f():\n lambda:a\n global a");
        DUE.fine("global a\na=1", "global a,a\nglobal a", "a=1\ndef f():\n global a");
        DUE.checkIs("nonlocal a", 4, 9);
        DUE.checkIs("global a\nnonlocal a", 4, 18);
        DUE.checkIs("def f():\n a=1\n def g():\n  global a\n  nonlocal a", 5, 46);
        DUE.checkIs("def f():\n a=1\n def g():\n  nonlocal a\n  global a", 5, 46);
        DUE.checkIs("def f():\n nonlocal a", 6, 19);
        DUE.checkIs("a=1\ndef f():\n nonlocal a", 6, 23);
        DUE.checkIs("class A:\n a=1\n def f():\n  nonlocal a", 6, 35);
        DUE.checkIs("def f():\n a\n def g():\n  nonlocal a", 6, 33);
        DUE.fine("def f():\n def g():\n  nonlocal a\n a=1\n", "def f(a):\n class B:\n  nonlocal a");
        DUE.checkIs("return", 7, 0);
        DUE.checkIs("class A:return 1", 7, 8);
        DUE.checkIs("def f():\n class A:\n  if a:\n   return", 7, 30);
        DUE.fine("def f():return", "def f():\n if a:\n  return b");
        DUE.checkIs("class A:[(a:=1) for b in c]", 8, 10);
        DUE.checkIs("class A:[[(a:=1) for b in c] for d in e]", 8, 11);
        DUE.fine("class A:[lambda:(a:=1) for b in c]", "class A:(a:=1)");
        DUE.checkIs("[(a:=1) for a in b]", 9, 2);
        DUE.checkIs("[[(a:=1) for b in c] for a in d]", 9, 3);
        DUE.fine("[lambda:(a:=1) for a in b]", "[(a:=1) for b in c]", "[(a:=1) for b in c]+[a for a in c]",
            "[a for b in c]+(d:=1)");
        DUE.checkIs("[a for b in (c:=1)]", 10, 13);
        DUE.checkIs("[a for b in lambda:(c:=1)]", 10, 20);
        DUE.checkIs("[a for b in [(c:=1) for d in e]]", 10, 14);
        DUE.checkIs("[[a for b in (c:=1)] for d in e]", 10, 14);
        DUE.checkIs("[a for b in (b:=1)]", 10, 13);
    }

    private static void leastErrorFirst() {
        DUE.checkIs("nonlocal a\nreturn", 4, 9);
        DUE.checkIs("return\nnonlocal a", 7, 0);
        DUE.checkIs("lambda a,a:b\nreturn", 1, 9);
        DUE.checkIs("a\nnonlocal a", 3, 11);
        DUE.checkIs("global a\na\nnonlocal a", 3, 20);
        DUE.checkIs("class A:[[a for b in (c:=1)] for c in d]", 8, 22);
        DUE.checkIs("[[a for b in (c:=1)] for c in d]", 9, 14);
        DUE.checkIs("def f():\n a=1\n def g():\n  def h():\n   nonlocal a\n  global a", 6, 47);
    }

    // ---- promise 9

    private static void extents() {
        DUE.extentsAre("f(a)(b)", 0, "f", "f(a)", "f(a)(b)");
        DUE.extentsAre("f(a)(b)", 1, "f(a)", "f(a)(b)");
        DUE.extentsAre("f(a)(b)", 2, "a", "f(a)", "f(a)(b)");
        DUE.extentsAre("f(a)(b)", 5, "b", "f(a)(b)");
        DUE.extentsAre("f(a)(b)", 7);
        DUE.extentsAre("a+b+c", 0, "a", "a+b", "a+b+c");
        DUE.extentsAre("a+b+c", 1, "a+b", "a+b+c");
        DUE.extentsAre("a+b+c", 2, "b", "a+b", "a+b+c");
        DUE.extentsAre("a+b+c", 4, "c", "a+b+c");
        DUE.extentsAre("a+f(b)", 2, "f", "f(b)", "a+f(b)");
        DUE.extentsAre("x=(y:=z)", 0, "x=(y:=z)");
        DUE.extentsAre("x=(y:=z)", 3, "(y:=z)", "x=(y:=z)");
        DUE.extentsAre("x=(y:=z)", 6, "z", "(y:=z)", "x=(y:=z)");
        DUE.extentsAre("[a for b in c]", 1, "a", "[a for b in c]");
        DUE.extentsAre("[a for b in c]", 7, "[a for b in c]");
        DUE.extentsAre("[a for b in c]", 12, "c", "[a for b in c]");
        DUE.extentsAre("lambda a:b+c", 7, "lambda a:b+c");
        DUE.extentsAre("lambda a:b+c", 9, "b", "b+c", "lambda a:b+c");
        DUE.extentsAre("x=lambda a:b", 5, "lambda a:b", "x=lambda a:b");
        DUE.extentsAre("f(lambda:b)", 2, "lambda:b", "f(lambda:b)");
        DUE.extentsAre("pass # x", 3, "pass");
        DUE.extentsAre("pass # x", 4);
        DUE.extentsAre("if a:b=c\n\nd", 5, "if a:b=c");
        DUE.extentsAre("if a:b=c\n\nd", 7, "c", "if a:b=c");
        DUE.extentsAre("if a:b=c\n\nd", 8);
        DUE.extentsAre("if a:\n b=c\n\nd", 7, "b=c", "if a:\n b=c");
        DUE.extentsAre("if a:\n b=c\n\nd", 6, "if a:\n b=c");
        DUE.extentsAre("if a:b\nelse:\n c\nd", 14, "c", "if a:b\nelse:\n c");
        DUE.extentsAre("if a:b\nelse:\n c\nd", 16, "d");
        DUE.extentsAre("def f(a):\n return b\n", 4, "def f(a):\n return b");
        DUE.extentsAre("def f(a):\n return b\n", 18, "b", "return b", "def f(a):\n return b");
        DUE.extentsAre("for a in b:\n pass\n", 4, "for a in b:\n pass");
        DUE.extentsAre("for a in b:\n pass\n", 9, "b", "for a in b:\n pass");
        DUE.extentsAre("return a", 7, "a", "return a");
        BindingServer x = Due.server("f(a)");
        DUE.is("extent(2, 0)", x.extent(2, 0), 2 + 256 * 3);
        DUE.is("extent(2, 1)", x.extent(2, 1), 256 * 4);
        for (int far : FAR) {
            DUE.is("extent(" + far + ", 0)", x.extent(far, 0), NONE);
            DUE.is("extent(0, " + far + ")", x.extent(0, far), NONE);
        }
        DUE.is("an error does not hide extents", Due.server("return").extent(0, 0), 256 * 6);
        DUE.is("a fault does", Due.server("a\nreturn return").extent(0, 0), NONE);
        DUE.is("extents of a full text", Due.server("a+".repeat(99) + "ab").extent(0, 99), 256 * 200);
        DUE.is("of 100 statements", Due.server("a\n".repeat(100)).extent(198, 0), 198 + 256 * 199);
    }

    // ---- promises 10 and 11

    private static void scopes() {
        DUE.scopesAre("a", 0);
        DUE.scopesAre("def f():pass\nclass A:pass\nlambda:a\n[a for a in a]\n[a]", 0, 1, 2, 3, 4);
        DUE.scopesAre("def f():\n class A:\n  lambda:[a for a in a]", 0, 1, 10, 19, 28);
        DUE.scopesAre("[lambda:a for b in lambda:c]", 0, 4, 11, 3);
        DUE.scopesAre("[[a for a in b] for c in [d for d in e]]", 0, 4, 12, 4);
        DUE.scopesAre("[[a for a in [b for b in c]] for c in d]", 0, 4, 12, 12);
        DUE.scopesAre("lambda:lambda:a", 0, 3, 11);
        DUE.scopesAre("def f():pass\ndef g():\n def h():pass", 0, 1, 1, 17);
        DUE.scopesAre("return", 0);
        BindingServer x = Due.server("lambda:a");
        for (int k : FAR) {
            DUE.is("scope(" + k + ")", x.scope(k), NONE);
        }
        String lambdas = "f(" + "lambda:1,".repeat(21) + "lambda:1)";
        DUE.is("many scopes", Due.server(lambdas).scopes(), 23);
        DUE.is("the last of them", Due.server(lambdas).scope(22), 3);
    }

    // ---- promises 12 and 13

    private static void names() {
        DUE.namesAre("1 # a");
        DUE.namesAre("def f(a,b):c=d(e)", 4, 6, 8, 11, 13, 15);
        DUE.namesAre("def f():\n global a,bb\n nonlocal c\n", 4, 17, 19, 32);
        DUE.namesAre("[aa for bb in cc]+(dd:=ee)", 1, 8, 14, 19, 23);
        DUE.namesAre("return\nclass A:import b\nfor c in d:del e", 13, 22, 28, 33, 39);
        BindingServer x = Due.server("a");
        for (int k : FAR) {
            DUE.is("name(" + k + ")", x.name(k), NONE);
        }
        DUE.is("100 names", Due.server("a+".repeat(99) + "a").names(), 100);
        DUE.is("the last of them", Due.server("a+".repeat(99) + "a").name(99), 198);
    }

    // ---- promise 14

    private static void kindsOfOccurrences() {
        DUE.resolveIs("a=b", 0, Due.what(5, 0, 0));
        DUE.resolveIs("a=b", 1, NONE);
        DUE.resolveIs("a=b", 2, Due.what(6, 0, 0));
        DUE.resolveIs("a=b", 3, NONE);
        DUE.resolveIs("abc", 0, Due.what(6, 0, 0));
        DUE.resolveIs("abc", 2, Due.what(6, 0, 0));
        DUE.resolveIs("pass", 0, NONE);
        DUE.resolveIs("1", 0, NONE);
        for (String binding : new String[] {"def a():pass", "class a:pass", "for a in 1:pass",
            "import a", "del a", "a=1", "(a:=1)", "[(a:=1) for b in 1]"}) {
            DUE.resolveIs("a\n" + binding, 0, Due.what(5, 0, 0));
        }
        for (String other : new String[] {"lambda a:1", "def f(a):1", "[1 for a in 1]", "global a"}) {
            DUE.resolveIs("lambda:a\n" + other, 7, Due.what(6, 0, 1));
        }
        DUE.resolveIs("def f(a):a", 6, Due.what(1, 1, 1));
        DUE.resolveIs("def f(a):a", 9, Due.what(1, 1, 1));
        DUE.resolveIs("def f(a):a", 4, Due.what(5, 0, 0));
        DUE.resolveIs("def f(a):lambda:a", 6, Due.what(2, 1, 1));
        DUE.resolveIs("def f(a):lambda:a", 16, Due.what(3, 1, 2));
        DUE.resolveIs("class A:b=1", 8, Due.what(1, 1, 1));
        DUE.resolveIs("def f():\n global a\n a=1\na", 17, Due.what(4, 0, 1));
        DUE.resolveIs("def f():\n global a\n a=1\na", 20, Due.what(4, 0, 1));
        DUE.resolveIs("def f():\n global a\n a=1\na", 24, Due.what(5, 0, 0));
        DUE.resolveIs("global a", 7, Due.what(4, 0, 0));
        DUE.resolveIs("global a\na=1", 9, Due.what(4, 0, 0));
        DUE.resolveIs("def f():\n global a\n a\na", 22, Due.what(6, 0, 0));
        String nonlocal = "def f():\n a=1\n def g():\n  nonlocal a\n  a";
        DUE.resolveIs(nonlocal, 10, Due.what(2, 1, 1));
        DUE.resolveIs(nonlocal, 35, Due.what(3, 1, 2));
        DUE.resolveIs(nonlocal, 39, Due.what(3, 1, 2));
        DUE.resolveIs("[a for a in a]", 1, Due.what(1, 1, 1));
        DUE.resolveIs("[a for a in a]", 7, Due.what(1, 1, 1));
        DUE.resolveIs("[lambda:a for a in a]", 14, Due.what(2, 1, 1));
        DUE.resolveIs("[lambda:a for a in a]", 8, Due.what(3, 1, 2));
        DUE.resolveIs("[a for a in a]", 12, Due.what(6, 0, 0));
        DUE.resolveIs("lambda:[(a:=b) for b in a]", 9, Due.what(1, 1, 1));
        DUE.resolveIs("lambda:[(a:=b)+a for b in a]", 15, Due.what(3, 1, 2));
        DUE.resolveIs("lambda:[(a:=b)+a for b in a]", 9, Due.what(2, 1, 1));
        DUE.resolveIs("lambda:[(a:=b) for b in a]", 24, Due.what(1, 1, 1));
    }

    private static void searchPassesClassesAndStops() {
        String throughClass = "def f(a):\n class B:\n  a=1\n  def g():a";
        DUE.resolveIs(throughClass, 6, Due.what(2, 1, 1));
        DUE.resolveIs(throughClass, 22, Due.what(1, 2, 2));
        DUE.resolveIs(throughClass, 36, Due.what(3, 1, 3));
        String stopped = "def f(a):\n def g():\n  global a\n  def h():a";
        DUE.resolveIs(stopped, 6, Due.what(1, 1, 1));
        DUE.resolveIs(stopped, 41, Due.what(6, 0, 3));
        String classDeclares = "def f(a):\n class B:\n  global a\n  lambda:a";
        DUE.resolveIs(classDeclares, 40, Due.what(3, 1, 3));
        DUE.resolveIs(classDeclares, 29, Due.what(4, 0, 2));
        String passed = "def f(a):\n def g():\n  nonlocal a\n  a=1\n  lambda:a";
        DUE.resolveIs(passed, 48, Due.what(3, 1, 3));
        DUE.resolveIs("def f(a):\n class B:a", 19, Due.what(3, 1, 2));
        DUE.resolveIs("class B:\n a=1\n lambda:a", 22, Due.what(6, 0, 2));
        DUE.resolveIs("a=1\ndef f():\n return a", 21, Due.what(5, 0, 1));
        DUE.resolveIs("def f():\n global a\n def a():pass\ndef g():a", 41, Due.what(5, 0, 3));
    }

    // ---- promises 15 and 16

    private static void definitions() {
        DUE.definitionIs("a\na=1\na=2", 0, 2);
        DUE.definitionIs("a\na=1\na=2", 6, 2);
        DUE.definitionIs("a", 0, NONE);
        DUE.definitionIs("a=1", 0, 0);
        DUE.definitionIs("a=1", 1, NONE);
        DUE.definitionIs("def f(ab):\n ab=1\n ab", 18, 6);
        DUE.definitionIs("def f(ab):\n ab=1\n ab", 19, 6);
        DUE.definitionIs("def f():\n global a\n a=1\ndef g():a\na=2", 32, 20);
        DUE.definitionIs("def f():\n global a\n a=1\na=2", 17, 20);
        DUE.definitionIs("global a", 7, NONE);
        DUE.definitionIs("def f():\n def g():\n  nonlocal a\n  a=1\n a=2", 39, 34);
        DUE.definitionIs("a\nimport b", 2, NONE);
        for (int p : FAR) {
            DUE.definitionIs("a=1", p, NONE);
        }
        DUE.definitionIs("a=1\nreturn", 0, NONE);
    }

    private static void references() {
        String text = "def f(a):\n a=b\n lambda:a\na";
        int[] row = {6, 11, 23};
        for (int p : row) {
            BindingServer x = Due.server(text);
            for (int k = 0; k < row.length; k++) {
                DUE.is("reference(" + p + ", " + k + ")", x.reference(p, k), row[k]);
            }
            DUE.is("reference(" + p + ", 3)", x.reference(p, 3), NONE);
            for (int k : FAR) {
                DUE.is("reference(" + p + ", " + k + ")", x.reference(p, k), NONE);
                DUE.is("reference(" + k + ", 0)", x.reference(k, 0), NONE);
            }
        }
        BindingServer x = Due.server(text);
        DUE.is("of the first occurrence", x.reference(4, 0), 4);
        DUE.is("of the module", x.reference(25, 0), 25);
        DUE.is("of the module", x.reference(25, 1), NONE);
        DUE.is("of no occurrence", x.reference(7, 0), NONE);
        BindingServer declared = Due.server("def f():\n global a\n a\na=1");
        DUE.is("those that declare count", declared.reference(22, 0), 17);
        DUE.is("global and module are one", declared.reference(17, 2), 22);
        BindingServer missing = Due.server("def f():\n global a\na");
        DUE.is("global and missing are one", missing.reference(17, 1), 19);
        DUE.is("not fine", Due.server("a\nreturn").reference(0, 0), NONE);
    }

    // ---- promise 17

    private static void renames() {
        DUE.renameIs("a=1\nb=a", 6, "cc", 2, "cc=1\nb=cc");
        DUE.renameIs("abc=1\nb=abc", 8, "x", 2, "x=1\nb=x");
        DUE.renameIs("abc=1\nb=abc", 10, "abc", 2, "abc=1\nb=abc");
        DUE.renameIs("a=1\nb=a", 0, "nonloca", 2, "nonloca=1\nb=nonloca");
        DUE.renameIs("a=1\nb=a", 0, "lambda_1", 2, "lambda_1=1\nb=lambda_1");
        DUE.renameIs("def f(a):\n b=a\n def g():\n  nonlocal b\n  b=a\n", 11, "c",
            3, "def f(a):\n c=a\n def g():\n  nonlocal c\n  c=a\n");
        DUE.renameIs("def f():\n global a\n a=1\na", 24, "xy", 3, "def f():\n global xy\n xy=1\nxy");
        DUE.renameIs("def f(a):a\na=1", 6, "b", 2, "def f(b):b\na=1");
        DUE.renameIs("[a for a in a]", 1, "b", 2, "[b for b in a]");
        DUE.renameIs("def f(a):a\ndef g(b):b", 6, "b", 2, "def f(b):b\ndef g(b):b");
        DUE.renameIs("[1for a in 1]", 6, "b", 1, "[1for b in 1]");
        BindingServer x = Due.server("a=1");
        DUE.is("zeros are left out", x.rename(0, 0x6200630000640000L), 1);
        DUE.same("text", Due.textOf(x), "bcd=1");
        DUE.is("global that none binds", Due.server("def f():\n global a\n").rename(17, 'b'), 1);
        String long200 = "a=1\n" + "#".repeat(194) + "\na";
        DUE.renameIs(long200, 0, "b", 2, long200.replace('a', 'b'));
        DUE.renameIs(long200, 0, "bb", FULL, long200);
        String long199 = "a=1\n" + "#".repeat(195);
        DUE.renameIs(long199, 0, "bb", 1, "b" + long199.replace('a', 'b'));
        DUE.renameIs(long199, 0, "bbb", FULL, long199);
    }

    private static void renameRefuses() {
        String text = "a=b\n";
        for (String name : new String[] {"", "1", "1a", "a b", "a+", "a\n", "\u0080", "if", "in", "nonlocal",
            "class", "def", "del", "else", "for", "global", "import", "lambda", "pass", "return",
            "while", "-", "\u0001", "a\u00ff", "a[", "a`", "a@", "a{", "a/", "a:"}) {
            DUE.renameIs(text, 0, name, NONE, text);
            DUE.renameIs(text, 2, name, NONE, text);
        }
        for (int p : new int[] {1, 3, 4, -1, Integer.MIN_VALUE, Integer.MAX_VALUE}) {
            DUE.renameIs(text, p, "c", NONE, text);
        }
        DUE.renameIs(text, 2, "c", FIXED, text);
        DUE.renameIs(text, 2, "b", FIXED, text);
        DUE.renameIs("a=1\nreturn", 0, "c", NONE, "a=1\nreturn");
        DUE.renameIs("a=1\n)", 0, "c", NONE, "a=1\n)");
        String missing = "a\n" + "#".repeat(198);
        DUE.renameIs(missing, 0, "bb", FIXED, missing);
        String fullAndConflict = "a=b\n" + "#".repeat(195) + "\n";
        DUE.renameIs(fullAndConflict, 0, "bb", FULL, fullAndConflict);
        DUE.renameIs(fullAndConflict, 0, "b", CONFLICT, fullAndConflict);
    }

    private static void renameConflicts() {
        String[][] rows = {
            {"a=1\nb=1", "0", "b"},
            {"a=1\nb", "0", "b"},
            {"def f(a,b):pass", "6", "b"},
            {"def f(a):b\nb=1", "6", "b"},
            {"a=1\ndef f(b):a", "0", "b"},
            {"def f(a):\n lambda b:a", "6", "b"},
            {"def f(a):\n lambda b:a+b", "18", "a"},
            {"def f():\n global a\n a=1\n b=1\n", "17", "b"},
            {"def f():\n b\n a=1\n", "13", "b"},
            {"[(a:=1) for b in c]", "2", "b"},
            {"[(a:=1) for b in c]", "12", "a"},
            {"class A:\n b=1\n c=2\n", "10", "c"},
            {"def f(a):\n def g():\n  global b\n  b=1\n  a\n", "6", "b"},
        };
        DUE.renameIs("a=1\nbb", 0, "bb", CONFLICT, "a=1\nbb");
        DUE.renameIs("aa=1\nb", 0, "b", CONFLICT, "aa=1\nb");
        for (String[] row : rows) {
            DUE.renameIs(row[0], Integer.parseInt(row[1]), row[2], CONFLICT, row[0]);
        }
        DUE.renameIs("a=1\ndef f(b):b", 0, "b", 1, "b=1\ndef f(b):b");
        DUE.renameIs("class A:\n b=1\n def f(c):c\n", 10, "c", 1, "class A:\n c=1\n def f(c):c\n");
        BindingServer x = Due.server("def f(a):\n lambda b:a");
        DUE.is("refused", x.rename(6, 'b'), CONFLICT);
        DUE.is("as before", x.resolve(20), Due.what(3, 1, 2));
        DUE.is("then allowed", x.rename(6, 'c'), 2);
        DUE.is("and again", x.rename(20, Due.eight("dd")), 2);
        DUE.same("text", Due.textOf(x), "def f(dd):\n lambda b:dd");
    }

    // ---- all of them

    private static void nothingOfUnacceptedText() {
        BindingServer x = Due.server("a=1\nlambda:a\n)");
        DUE.is("scopes()", x.scopes(), NONE);
        DUE.is("scope(0)", x.scope(0), NONE);
        DUE.is("names()", x.names(), NONE);
        DUE.is("name(0)", x.name(0), NONE);
        DUE.is("extent(0, 0)", x.extent(0, 0), NONE);
        DUE.is("resolve(0)", x.resolve(0), NONE);
        DUE.is("definition(0)", x.definition(0), NONE);
        DUE.is("reference(0, 0)", x.reference(0, 0), NONE);
        DUE.is("tokens()", x.tokens(), 11);
        DUE.is("character(0)", x.character(0), 'a');
        BindingServer y = Due.server("a=1\nreturn a");
        DUE.is("scopes() with an error", y.scopes(), 1);
        DUE.is("names() with an error", y.names(), 2);
        DUE.is("name(1) with an error", y.name(1), 11);
        DUE.is("resolve(0) with an error", y.resolve(0), NONE);
    }

    private static void answersFollowTheText() {
        BindingServer x = Due.server("a=1\nb=a");
        DUE.is("check()", x.check(), 0);
        DUE.is("resolve(6)", x.resolve(6), Due.what(5, 0, 0));
        x.edit(0, 1, 'c');
        DUE.is("resolve(6) after an edit", x.resolve(6), Due.what(6, 0, 0));
        x.edit(3, 1, ')');
        DUE.is("check() after a fault", x.check(), 20);
        DUE.is("place() after a fault", x.place(), 3);
        x.edit(3, 1, 10);
        DUE.is("check() after a mending", x.check(), 0);
        DUE.is("place() after a mending", x.place(), NONE);
        DUE.is("refused edit", x.edit(9, 0, ')'), NONE);
        DUE.is("check() after a refused edit", x.check(), 0);
        x.edit(0, 7, '(');
        DUE.is("tokens() while open", x.tokens(), 3);
        x.edit(0, 1, Due.eight("a\nb"));
        DUE.is("tokens() of another text", x.tokens(), 5);
        DUE.is("extents of another text", x.extent(0, 1), NONE);
        x.edit(0, 3, Due.eight("b=b+cc\n"));
        DUE.is("extent(2, 2)", x.extent(2, 2), 256 * 6);
        DUE.is("extent(2, 3)", x.extent(2, 3), NONE);
        DUE.is("names() of another text", x.names(), 3);
        BindingServer other = new BindingServer();
        DUE.is("objects share nothing", other.names(), 0);
        DUE.is("nor does the first lose", x.names(), 3);
    }
}
