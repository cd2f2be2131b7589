/** The borders that the document names for extents, scopes and occurrences: promises 9 to 13. */
public final class StructureEdgeTest {
    private static final int NONE = Due.NONE;
    private static final int MIN = Integer.MIN_VALUE;
    private static final int MAX = Integer.MAX_VALUE;

    private static final Due DUE = new Due();

    public static void main(String[] args) {
        statements();
        unwrittenTokensDoNotCount();
        simpleBodies();
        expressions();
        sums();
        items();
        namesWithoutExtents();
        inOneAnother();
        differentExtents();
        beginAndEnd();
        smallerOnes();
        noExtent();
        numbersOfScopes();
        howManyScopes();
        sorts();
        openScopes();
        liesIn();
        parents();
        noScope();
        allNames();
        howManyNames();
        belongs();
        walrusBelongs();
        binds();
        declares();
        noName();
        DUE.end("StructureEdgeTest");
    }

    private static void extents(String marked, String... want) {
        DUE.extentsAre(Due.withoutMark(marked), Due.markedPlace(marked), want);
    }

    // ---- EXTENTS

    private static void statements() {
        DUE.says("of every statement (from its first token to the end of its last one");
        extents("^pass", "pass");
        extents("pas^s", "pass");
        extents("^a = b", "a = b");
        extents("a^ = b", "a = b");
        extents("global ^a,b", "global a,b");
        extents("nonlocal a,^b", "nonlocal a,b");
        extents("del ^a", "del a");
        extents("import^ a", "import a");
        extents("^return", "return");
        extents("^def f(a):\n b\n c", "def f(a):\n b\n c");
        extents("def f(a):\n b\n ^c", "c", "def f(a):\n b\n c");
        extents("class A:\n class B:\n  ^pass", "pass", "class B:\n  pass",
            "class A:\n class B:\n  pass");
        extents("if a:\n pass\n^else:\n pass", "if a:\n pass\nelse:\n pass");
        extents("if a:\n pass\nelse:\n ^pass", "pass", "if a:\n pass\nelse:\n pass");
        extents("^while a:pass", "while a:pass");
        extents("^for a in b:pass", "for a in b:pass");
        extents("pass\n^pass\npass", "pass");
    }

    private static void unwrittenTokensDoNotCount() {
        DUE.says("but NEWLINE, INDENT, DEDENT");
        extents("pass^  # c");
        extents("pass^\n");
        extents("pass^\n\npass");
        extents("pass\n^\npass");
        extents("if a:\n b^\n\nc");
        extents("if a:\n b\n^\nc");
        extents("if a:\n b\n\n^c", "c");
        extents("if a:\n^ b", "if a:\n b");
        extents("if a:^\n\n b", "if a:\n\n b");
        extents("if a:\n if b:\n  c^  \nd");
        extents("if a:\n if b:\n  c\n^ d", "if a:\n if b:\n  c\n d");
        extents("if a:\n b^\nelse:c", "if a:\n b\nelse:c");
        extents("if a:\n b\nelse:\n c^\n");
    }

    private static void simpleBodies() {
        DUE.says("a simple that is a body is none");
        for (String body : new String[] {"pass", "global b", "nonlocal b", "del b", "import b", "return",
            "b=1"}) {
            for (String head : new String[] {"if a:", "while a:", "for a in b:", "def f():", "class A:",
                "if a:pass\nelse:"}) {
                DUE.extentsAre(head + body, head.length(), head + body);
                String block = head + "\n " + body;
                DUE.extentsAre(block, head.length() + 2, body, block);
            }
        }
        extents("if a:^b", "b", "if a:b");
        extents("if a:return ^b", "b", "if a:return b");
        extents("if a:b^=c", "if a:b=c");
        extents("if a:b=^c", "c", "if a:b=c");
    }

    private static void expressions() {
        DUE.says("of every expr");
        extents("a=^b", "b", "a=b");
        extents("return ^b", "b", "return b");
        extents("if ^a:pass", "a", "if a:pass");
        extents("while ^a:pass", "a", "while a:pass");
        extents("for a in ^b:pass", "b", "for a in b:pass");
        extents("(^a)", "a", "(a)");
        extents("^(a)", "(a)");
        extents("((^a))", "a", "(a)", "((a))");
        extents("[^1]", "1", "[1]");
        extents("(a:=^b)", "b", "(a:=b)");
        extents("[^a for b in c]", "a", "[a for b in c]");
        extents("[a for b in ^c]", "c", "[a for b in c]");
        extents("f(^a,b)", "a", "f(a,b)");
        extents("f(a,^b)", "b", "f(a,b)");
        extents("f(a^,b)", "f(a,b)");
        extents("^lambda a:b", "lambda a:b");
        extents("lambda a:^b", "b", "lambda a:b");
        extents("x=^lambda:lambda:a", "lambda:lambda:a", "x=lambda:lambda:a");
        extents("x=lambda:^lambda:a", "lambda:a", "lambda:lambda:a", "x=lambda:lambda:a");
        extents("x=lambda:lambda:^a", "a", "lambda:a", "lambda:lambda:a", "x=lambda:lambda:a");
        extents("f(^lambda:a,b)", "lambda:a", "f(lambda:a,b)");
    }

    private static void sums() {
        DUE.says("from its first item to the end of each of its items");
        extents("^a+b+c", "a", "a+b", "a+b+c");
        extents("a^+b+c", "a+b", "a+b+c");
        extents("a+^b+c", "b", "a+b", "a+b+c");
        extents("a+b^+c", "a+b+c");
        extents("a+b+^c", "c", "a+b+c");
        extents("a+^(b+c)", "(b+c)", "a+(b+c)");
        extents("a+(^b+c)", "b", "b+c", "(b+c)", "a+(b+c)");
        extents("a+(b+^c)", "c", "b+c", "(b+c)", "a+(b+c)");
        extents("f(^a+b)", "a", "a+b", "f(a+b)");
        extents("lambda:^a+b", "a", "a+b", "lambda:a+b");
        extents("(a^\n+ b)", "a\n+ b", "(a\n+ b)");
        extents("x=^a+b", "a", "a+b", "x=a+b");
    }

    private static void items() {
        DUE.says("from each item's begin to the end of each part of it that is itself an item"
            + " (of f(a)(b): f, f(a), f(a)(b)");
        extents("^f(a)(b)", "f", "f(a)", "f(a)(b)");
        extents("f^(a)(b)", "f(a)", "f(a)(b)");
        extents("f(^a)(b)", "a", "f(a)", "f(a)(b)");
        extents("f(a^)(b)", "f(a)", "f(a)(b)");
        extents("f(a)^(b)", "f(a)(b)");
        extents("f(a)(^b)", "b", "f(a)(b)");
        extents("^f()", "f", "f()");
        extents("f(^)", "f()");
        extents("a+^f(b)(c)", "f", "f(b)", "f(b)(c)", "a+f(b)(c)");
        extents("^f()+g()", "f", "f()", "f()+g()");
        extents("f()^+g()", "f()+g()");
        extents("f()+^g()", "g", "g()", "f()+g()");
        extents("^(a)(b)", "(a)", "(a)(b)");
        extents("^[a](b)", "[a]", "[a](b)");
        extents("^[a for b in c]()", "[a for b in c]", "[a for b in c]()");
        extents("^1()", "1", "1()");
    }

    private static void namesWithoutExtents() {
        DUE.says("the NAMES before = and := and behind for have none of their own");
        extents("^a=b", "a=b");
        extents("(^a:=b)", "(a:=b)");
        extents("for ^a in b:pass", "for a in b:pass");
        extents("[a for ^b in c]", "[a for b in c]");
        extents("def ^f(a):pass", "def f(a):pass");
        extents("def f(^a):pass", "def f(a):pass");
        extents("class ^A:pass", "class A:pass");
        extents("lambda ^a:b", "lambda a:b");
    }

    // ---- promise 9

    private static void inOneAnother() {
        DUE.says("all of which lie in one another");
        for (String text : new String[] {"a+(b+c(d)(e)+[f])+g", "x=lambda a:b+c(lambda:d)",
            "if a+b:\n c=d+e\nelse:f(g)", "[a+b for c in d(e)+f]", "def f(a):\n b+c\n return (d:=e)"}) {
            BindingServer x = Due.server(text);
            for (int p = 0; p < text.length(); p++) {
                int inner = p + 256 * (p + 1);
                int outer = x.extent(p, 0);
                for (int smaller = 1; outer != NONE; smaller++) {
                    boolean around = (outer & 255) <= (inner & 255) && outer >> 8 >= inner >> 8;
                    DUE.isTrue("extent " + (smaller - 1) + " at " + p + " of " + Due.shown(text)
                        + " lies around the one before", around);
                    inner = outer;
                    outer = x.extent(p, smaller);
                    DUE.isTrue("and is another", inner != outer);
                }
            }
        }
    }

    private static void differentExtents() {
        DUE.says("Of the different extents");
        extents("^a", "a");
        extents("^(a)", "(a)");
        extents("^f()", "f", "f()");
        extents("^lambda:a", "lambda:a");
        extents("if a:\n ^b", "b", "if a:\n b");
        extents("class A:\n ^b", "b", "class A:\n b");
        extents("class A:\n ^(b)", "(b)", "class A:\n (b)");
    }

    private static void beginAndEnd() {
        DUE.says("with begin <= p < end");
        BindingServer x = Due.server("  \nab + cd\n");
        int[] first = {NONE, NONE, NONE, 3 + 256 * 5, 3 + 256 * 5, 3 + 256 * 10, 3 + 256 * 10,
            3 + 256 * 10, 8 + 256 * 10, 8 + 256 * 10, NONE, NONE};
        for (int p = 0; p < first.length; p++) {
            DUE.is("extent(" + p + ", 0)", x.extent(p, 0), first[p]);
        }
        for (int p : new int[] {-1, 12, 200, 256, MIN, MAX}) {
            DUE.is("extent(" + p + ", 0)", x.extent(p, 0), NONE);
        }
        DUE.is("a full text at its end", Due.server("a".repeat(200)).extent(199, 0), 256 * 200);
        DUE.is("behind it", Due.server("a".repeat(200)).extent(200, 0), NONE);
    }

    private static void smallerOnes() {
        DUE.says("the one that has so many smaller ones among them (0: the smallest): its begin plus 256"
            + " times its end");
        BindingServer sum = Due.server("a+".repeat(99) + "ab");
        for (int k = 0; k < 99; k++) {
            DUE.is("extent(0, " + k + ") of a sum", sum.extent(0, k), 256 * (2 * k + 1));
        }
        DUE.is("extent(0, 99) of a sum", sum.extent(0, 99), 256 * 200);
        DUE.is("extent(0, 100) of a sum", sum.extent(0, 100), NONE);
        BindingServer calls = Due.server("a" + "()".repeat(99));
        for (int k = 0; k <= 99; k++) {
            DUE.is("extent(0, " + k + ") of calls", calls.extent(0, k), 256 * (2 * k + 1));
        }
        DUE.is("extent(0, 100) of calls", calls.extent(0, 100), NONE);
        BindingServer deep = Due.server("((((((((((a))))))))))");
        for (int k = 0; k <= 10; k++) {
            DUE.is("extent(10, " + k + ")", deep.extent(10, k), 10 - k + 256 * (11 + k));
        }
        DUE.is("extent(10, 11)", deep.extent(10, 11), NONE);
        DUE.is("of 100 statements", Due.server("a\n".repeat(100)).extent(198, 0), 198 + 256 * 199);
    }

    private static void noExtent() {
        DUE.says("NONE when there is none (smaller below 0, too), or the text is not accepted.");
        BindingServer x = Due.server("f(a)");
        for (int smaller : new int[] {-1, -2, MIN, 2, 3, 100, MAX}) {
            DUE.is("extent(0, " + smaller + ")", x.extent(0, smaller), NONE);
        }
        DUE.is("extent(0, 1)", x.extent(0, 1), 256 * 4);
        DUE.is("extent(3, 0)", x.extent(3, 0), 256 * 4);
        DUE.is("extent(3, 1)", x.extent(3, 1), NONE);
        DUE.is("extent(4, 0)", x.extent(4, 0), NONE);
        for (String text : new String[] {"a b", "a\n)", "a\n" + "(".repeat(11)}) {
            DUE.is("of a text that is not accepted", Due.server(text).extent(0, 0), NONE);
        }
        DUE.is("of one with an error", Due.server("a\nreturn").extent(0, 0), 256);
    }

    // ---- SCOPES, promises 10 and 11

    private static void numbersOfScopes() {
        DUE.says("by where they begin (the first token), numbered from 0: the MODULE (0; it begins before"
            + " all)");
        DUE.scopesAre("", 0);
        DUE.scopesAre("lambda:a", 0, 3);
        DUE.scopesAre("[lambda:a for b in lambda:c]", 0, 4, 3 + 8, 3);
        DUE.scopesAre("[[a for b in c] for d in [e for f in g]]", 0, 4, 4 + 8, 4);
        DUE.scopesAre("[a for b in [c for d in e]]", 0, 4, 4);
        DUE.scopesAre("(lambda:1)+[a for b in c]+(lambda:2)", 0, 3, 4, 3);
        DUE.scopesAre("def f():\n lambda:1\nclass A:\n [a for b in c]\nlambda:2", 0, 1, 3 + 8, 2,
            4 + 8 * 3, 3);
        DUE.scopesAre("[[[a for b in c] for d in e] for f in g]", 0, 4, 4 + 8, 4 + 16);
        DUE.scopesAre("[[a for b in [c for d in e]] for f in g]", 0, 4, 4 + 8, 4 + 8);
        String three = "lambda:".repeat(9) + "1";
        BindingServer many = Due.server("f(" + three + "," + three + "," + three + ")");
        DUE.is("scopes() of many", many.scopes(), 28);
        DUE.is("the last of many", many.scope(27), 3 + 8 * 26);
        DUE.is("the first of the last nine", many.scope(19), 3);
    }

    private static void scopesCounted(int count, String... texts) {
        for (String text : texts) {
            DUE.is("scopes() of " + Due.shown(text), Due.server(text).scopes(), count);
        }
    }

    private static void howManyScopes() {
        DUE.says("each def, each class, each lambda, each comprehension");
        scopesCounted(1, "", "a", "[a]", "(a)", "f(a)", "(a:=1)", "if a:b\nelse:c", "for a in b:c",
            "while a:b");
        scopesCounted(2, "def f():1", "class A:1", "lambda:1", "[a for b in c]", "[a]+[b for c in d]",
            "[a]([b for c in d])", "[[a for b in c]]");
        scopesCounted(3, "def f():1\ndef f():1", "class A:class_=1\nclass A:1", "lambda:lambda:1",
            "[a for b in c]+[a for b in c]", "def f():\n def f():1", "class A:\n class A:1");
        DUE.says("How many scopes there are; NONE when the text is not accepted.");
        scopesCounted(1, "return", "nonlocal a", "global a");
        scopesCounted(2, "lambda a,a:1", "class A:return");
        scopesCounted(NONE, "a b", "lambda:", "(", "def f():", " a", "?",
            "(".repeat(11) + "a" + ")".repeat(11));
    }

    private static void openScopes() {
        DUE.says("Module, def, lambda and comprehension are OPEN to the scopes in them, a class is not.");
        DUE.resolveIs("a=1\nlambda:a", 11, Due.what(5, 0, 1));
        DUE.resolveIs("def f(a):lambda:a", 16, Due.what(3, 1, 2));
        DUE.resolveIs("lambda a:lambda:a", 16, Due.what(3, 1, 2));
        DUE.resolveIs("[lambda:a for a in b]", 8, Due.what(3, 1, 2));
        DUE.resolveIs("class A:\n a=1\n lambda:a", 22, Due.what(6, 0, 2));
        DUE.resolveIs("class A:\n a=1\n [a for b in c]", 16, Due.what(6, 0, 2));
        DUE.resolveIs("class A:\n a=1\n class B:a", 23, Due.what(6, 0, 2));
    }

    private static void sorts() {
        DUE.says("its sort (0 module, 1 def, 2 class, 3 lambda, 4 comprehension) plus 8 times the number"
            + " of its parent (0 for the module)");
        DUE.scopesAre("def f():1", 0, 1);
        DUE.scopesAre("class A:1", 0, 2);
        DUE.scopesAre("lambda:1", 0, 3);
        DUE.scopesAre("[1 for a in b]", 0, 4);
        DUE.scopesAre("[1]", 0);
        DUE.scopesAre("if a:\n while b:\n  for c in d:(e)", 0);
        DUE.scopesAre("def f():\n class A:\n  lambda:[1 for a in b]", 0, 1, 2 + 8, 3 + 16, 4 + 24);
    }

    /** The scope that an occurrence belongs to, as resolve tells it. */
    private static void liesInScope(int scope, String... marked) {
        for (String text : marked) {
            int got = Due.server(Due.withoutMark(text)).resolve(Due.markedPlace(text));
            DUE.is("scope of the mark in " + Due.shown(text), got >> 9, scope);
        }
    }

    private static void liesIn() {
        DUE.says("Parameters and body of a def, the body of a class, parameters and the expr of a lambda,"
            + " and all of a comprehension but its source lie in that scope");
        liesInScope(1, "def f(^a):1", "def f(a,^b):1", "def f():^a", "def f():\n a\n if b:^c", "class A:^a",
            "class A:\n a\n ^b=1", "lambda ^a:1", "lambda a,^b:1", "lambda:^a", "lambda:f(a+^b)",
            "[^a for b in c]", "[a for ^b in c]", "[f(a,^b) for c in d]");
        liesInScope(0, "[a for b in ^c]", "[a for b in f(^c)]", "def f():a\n^b", "class A:a\n^b",
            "f(lambda:a,^b)", "(lambda:a)+^b", "[a for b in c]+^d", "[a for b in c](^d)", "def f(a):\n b\n^c",
            "if ^a:\n b", "for ^a in b:c");
        liesInScope(2, "def f():\n def g(^a):1", "lambda:lambda:^a", "[[^a for b in c] for d in e]",
            "def f():1\ndef g():^a", "[lambda ^a:1 for b in c]");
    }

    private static void parents() {
        DUE.says("a scope's PARENT is the one in which its first token lies (that token, the NAME behind"
            + " def and class, and a comprehension's source lie in the parent)");
        liesInScope(0, "def ^f():1", "class ^A:1", "[a for b in ^c]", "[a for b in [c for d in ^e]]");
        liesInScope(1, "def f():\n def ^g():1", "def f():\n class ^A:1", "lambda:[a for b in ^c]",
            "[[a for b in ^c] for d in e]", "class A:[a for b in ^c]", "[[1 for a in ^b] for c in d]");
        DUE.scopesAre("[a for b in lambda:c]", 0, 4, 3);
        DUE.scopesAre("[lambda:a for b in c]", 0, 4, 3 + 8);
        DUE.scopesAre("def f():1\ndef g():1", 0, 1, 1);
        DUE.scopesAre("class A:\n def f():1\n def g():1", 0, 2, 1 + 8, 1 + 8);
        DUE.scopesAre("def f():\n if a:\n  def g():1", 0, 1, 1 + 8);
        DUE.scopesAre("if lambda:1:lambda:2", 0, 3, 3);
        DUE.scopesAre("for a in [b for c in d]:lambda:2", 0, 4, 3);
        DUE.scopesAre("lambda:(lambda:1)+(lambda:2)", 0, 3, 3 + 8, 3 + 8);
        DUE.scopesAre("(lambda:1)(lambda:2)", 0, 3, 3);
    }

    private static void noScope() {
        DUE.says("NONE when there is none, or the text is not accepted.");
        BindingServer x = Due.server("lambda:a");
        DUE.is("scope(1)", x.scope(1), 3);
        for (int k : new int[] {2, 3, 32, 64, -1, -2, MIN, MAX}) {
            DUE.is("scope(" + k + ")", x.scope(k), NONE);
        }
        BindingServer faulty = Due.server("lambda:a\n)");
        DUE.is("scopes() of a text that is not accepted", faulty.scopes(), NONE);
        for (int k : new int[] {0, 1, 2, -1}) {
            DUE.is("scope(" + k + ") of a text that is not accepted", faulty.scope(k), NONE);
        }
        DUE.is("scopes() of one that is too deep", Due.server("(".repeat(11)).scopes(), NONE);
        DUE.scopesAre("lambda a,a:1", 0, 3);
        DUE.scopesAre("return", 0);
    }

    // ---- OCCURRENCES, promises 12 and 13

    private static void allNames() {
        DUE.says("OCCURRENCES are all NAME tokens of an accepted text.");
        DUE.namesAre("");
        DUE.namesAre("1");
        DUE.namesAre("pass # a");
        DUE.namesAre("a", 0);
        DUE.namesAre("def f(a,b):\n global c,d", 4, 6, 8, 20, 22);
        DUE.namesAre("class A:nonlocal b,c", 6, 17, 19);
        DUE.namesAre("import a\ndel b", 7, 13);
        DUE.namesAre("for a in b:c=d", 4, 9, 11, 13);
        DUE.namesAre("if a:return b\nelse:(c:=d)", 3, 12, 20, 23);
        DUE.namesAre("lambda a,b:f(c,d)(e)", 7, 9, 11, 13, 15, 18);
        DUE.namesAre("a+a+a", 0, 2, 4);
        DUE.namesAre("abc + _1", 0, 6);
        BindingServer many = Due.server("a+".repeat(99) + "a");
        DUE.is("names() of many", many.names(), 100);
        DUE.is("the last of many", many.name(99), 198);
        DUE.is("behind it", many.name(100), NONE);
        BindingServer lines = Due.server("a\n".repeat(100));
        DUE.is("names() of many lines", lines.names(), 100);
        DUE.is("the last of them", lines.name(99), 198);
    }

    private static void howManyNames() {
        DUE.says("How many occurrences there are; NONE when the text is not accepted.");
        DUE.is("names() of nothing", new BindingServer().names(), 0);
        DUE.namesAre("a\nreturn b", 0, 9);
        DUE.namesAre("lambda a,a:1", 7, 9);
        for (String text : new String[] {"a b", "a)", "(a", "a\n b", "a?",
            "(".repeat(11) + "a" + ")".repeat(11)}) {
            DUE.is("names() of " + Due.shown(text), Due.server(text).names(), NONE);
        }
    }

    private static void belongs() {
        DUE.says("One BELONGS to the scope that it lies in");
        liesInScope(0, "^a", "(^a:=1)", "global ^a", "f((^a:=1))");
        liesInScope(1, "lambda:(^a:=1)", "def f():global ^a", "class A:(^a:=1)", "[lambda:1 for ^b in c]");
    }

    private static void walrusBelongs() {
        DUE.says("the NAME before := in a comprehension (not in its source) belongs to the nearest scope"
            + " around it that is no comprehension");
        liesInScope(0, "[(^a:=1) for b in c]", "[[(^a:=1) for b in c] for d in e]",
            "[f((^a:=1)) for b in c]");
        liesInScope(1, "lambda:[(^a:=1) for b in c]", "def f():[[(^a:=1) for b in c] for d in e]",
            "[(a:=^b) for b in c]");
        liesInScope(2, "[lambda:(^a:=1) for b in c]", "[lambda:[(^a:=1) for b in c] for d in e]",
            "def f():lambda:[(^a:=1) for b in c]", "class A:lambda:[[(^a:=1) for b in c] for d in e]");
    }

    /** Whether the occurrence at the mark, the only one of its name that may, binds. */
    private static void binds(boolean yes, String... marked) {
        for (String text : marked) {
            int p = Due.markedPlace(text);
            DUE.definitionIs(Due.withoutMark(text), p, yes ? p : NONE);
        }
    }

    private static void binds() {
        DUE.says("An occurrence BINDS when it stands: behind def, class, for (also in a comprehension),"
            + " import, del; as a parameter; before = or :=.");
        binds(true, "def ^a():1", "class ^a:1", "for ^a in b:1", "[1 for ^a in b]", "import ^a", "del ^a",
            "def f(^a):1", "def f(b,^a):1", "lambda ^a:1", "lambda b,^a:1", "^a=1", "(^a:=1)",
            "[(^a:=1) for b in c]");
        binds(false, "^a", "^a()", "f(^a)", "b=^a", "(b:=^a)", "for b in ^a:1", "[1 for b in ^a]",
            "[^a for b in c]", "if ^a:1", "while ^a:1", "def f():return ^a", "lambda:^a", "1+^a", "(^a)",
            "[^a]");
    }

    private static void declares() {
        DUE.says("(Those behind global and nonlocal DECLARE.)");
        binds(false, "global ^a", "global b,^a", "def f():global ^a");
        DUE.definitionIs("def f(a):\n def g():nonlocal a", 28, 6);
        DUE.definitionIs("def f():\n def g():nonlocal a\n a=1", 27, 30);
        DUE.definitionIs("global a\na=1", 7, 9);
    }

    private static void noName() {
        DUE.says("Where occurrence k, by place, from 0, begins; NONE when there is none, or the text is not"
            + " accepted.");
        BindingServer x = Due.server("ab+1+c");
        DUE.is("name(0)", x.name(0), 0);
        DUE.is("name(1)", x.name(1), 5);
        for (int k : new int[] {2, 3, 100, 200, -1, -2, MIN, MAX}) {
            DUE.is("name(" + k + ")", x.name(k), NONE);
        }
        for (String text : new String[] {"a b", "a\n)", "a\n" + "(".repeat(11)}) {
            BindingServer faulty = Due.server(text);
            DUE.is("names() of " + Due.shown(text), faulty.names(), NONE);
            DUE.is("name(0) of " + Due.shown(text), faulty.name(0), NONE);
            DUE.is("name(-1) of " + Due.shown(text), faulty.name(-1), NONE);
        }
        x.edit(0, 3, 0);
        DUE.is("names() of what had more", x.names(), 1);
        DUE.is("name(1) of what had more", x.name(1), NONE);
    }
}
