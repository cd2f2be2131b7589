/** The borders that the document names for ERRORS, one number after the other. */
public final class ErrorEdgeTest {
    private static final Due DUE = new Due();

    public static void main(String[] args) {
        parameterTwice();
        declaredParameter();
        declaredLate();
        nonlocalInModule();
        declaredBothWays();
        nonlocalUnfound();
        strayReturn();
        walrusInClass();
        walrusOnTarget();
        walrusInSource();
        whereErrorsStand();
        firstByPlace();
        leastNumber();
        fineWhenNone();
        DUE.end("ErrorEdgeTest");
    }

    /** The error stands at the mark. */
    private static void error(int number, String... marked) {
        for (String text : marked) {
            DUE.checkIs(Due.withoutMark(text), number, Due.markedPlace(text));
        }
    }

    private static void parameterTwice() {
        DUE.says("1 a parameter that is there already in the same parameters");
        error(1, "def f(a,^a):1", "lambda a,^a:1", "def f(a,b,^a):1", "def f(b,a,^a):1",
            "def f(a,^a,a):1", "lambda a,b,^b:1", "def f(a):\n def g(b,^b):1", "lambda a:lambda b,^b:1");
        DUE.fine("def f(a):1", "def f(a,b):1", "def f(a,aa):1", "def f(aa,a):1", "def f(a,A):1",
            "def f(f):1", "def f(a):\n def g(a):1", "lambda a:lambda a:1", "def f(a):1\ndef g(a):1",
            "def f(a):a=a", "def f(a):\n for a in a:1", "(lambda a:1)+(lambda a:1)");
    }

    private static void declaredParameter() {
        DUE.says("2 a declared one that is a parameter of the scope that it belongs to");
        error(2, "def f(a):global ^a", "def f(a):nonlocal ^a", "def f(a,b):global ^b",
            "def f(a):global b,^a", "def f(a):\n if b:global ^a", "def f(a):\n a\n global ^a",
            "def f(b):\n def g(a):nonlocal ^a", "class A:\n def f(a):global ^a");
        DUE.fine("def f(a):global b", "def f(a):global f", "def f(a):\n class B:global a",
            "def f(a):\n def g():global a", "def f(a):\n def g():nonlocal a", "lambda a:1\nglobal a",
            "def f(a):1\nglobal a", "def f():\n lambda a:1\n global a", "def f(aa):global a");
    }

    private static void declaredLate() {
        DUE.says("3 a declared one whose name has an occurrence that does not declare, earlier in the"
            + " text, belonging to the same scope");
        error(3, "a\nglobal ^a", "a=1\nglobal ^a", "def a():1\nglobal ^a", "class a:1\nglobal ^a",
            "import a\nglobal ^a", "del a\nglobal ^a", "for a in b:1\nglobal ^a", "for a in b:global ^a",
            "(a:=1)\nglobal ^a", "if a:global ^a", "if a:b\nelse:global ^b", "f(a)\nglobal ^a",
            "global a\na\nglobal ^a", "a\nglobal b,^a", "class A:\n a\n global ^a",
            "def f():\n a\n global ^a", "def f(b):\n def g():\n  b\n  nonlocal ^b",
            "[b for b in a]\nglobal ^a", "[(a:=1) for b in c]\nglobal ^a",
            "def f():\n [[(a:=1) for b in c] for d in e]\n global ^a");
        DUE.fine("global a\na", "global a\na=1", "global a,a", "global a\nglobal a", "b\nglobal a",
            "aa\nglobal a", "def f():1\nglobal a", "lambda:a\nglobal a", "def f():a\nglobal a",
            "class A:a\nglobal a", "[a for a in b]\nglobal a", "[a for b in c]\nglobal a",
            "[lambda:(a:=1) for b in c]\nglobal a", "a\ndef f():global a", "def a():global a",
            "def f(b):\n def g():\n  nonlocal b\n  b");
    }

    private static void nonlocalInModule() {
        DUE.says("4 one declared nonlocal that belongs to the module");
        error(4, "nonlocal ^a", "nonlocal ^a,b", "if a:nonlocal ^b", "nonlocal ^a\na=1",
            "def f():1\nnonlocal ^a", "while a:\n nonlocal ^b");
        DUE.fine("global a", "def f(a):\n def g():nonlocal a");
        error(6, "class A:nonlocal ^a");
    }

    private static void declaredBothWays() {
        DUE.says("5 one whose name was declared the other way (global, nonlocal) by an earlier occurrence"
            + " belonging to the same scope");
        error(5, "def f(a):\n def g():\n  global a\n  nonlocal ^a",
            "def f(a):\n def g():\n  nonlocal a\n  global ^a",
            "def f(a):\n def g():\n  nonlocal a\n  nonlocal a\n  global ^a",
            "def f(a):\n def g():\n  global b,a\n  nonlocal ^a",
            "def f(a):\n class B:\n  nonlocal a\n  global ^a",
            "def f(a):\n def g():\n  if b:global a\n  else:nonlocal ^a");
        DUE.fine("def f():\n global a\n global a", "def f(a):\n def g():\n  nonlocal a\n  nonlocal a",
            "def f(a,b):\n def g():\n  nonlocal a\n  global c",
            "def f(a):\n def g():global a\n def h():nonlocal a",
            "def f(a):\n def g():\n  nonlocal a\n  def h():global a",
            "def f(a):\n class B:\n  global a\n  def h():nonlocal a");
    }

    private static void nonlocalUnfound() {
        DUE.says("6 one declared nonlocal, in another scope than the module, whose SEARCH (below) finds"
            + " no scope");
        error(6, "def f():nonlocal ^a", "a=1\ndef f():nonlocal ^a", "def f():nonlocal ^f",
            "class A:\n a=1\n def f():nonlocal ^a", "def f():\n a\n def g():nonlocal ^a",
            "def f():\n nonlocal ^a\n a=1", "def f(a):\n def g():\n  global a\n  def h():nonlocal ^a",
            "def f():\n [a for a in b]\n def g():nonlocal ^a", "def f(a):1\ndef g():nonlocal ^a",
            "def f():\n lambda a:1\n def g():nonlocal ^a", "def f(a):\n def g():nonlocal a,^b",
            "def f(aa):\n def g():nonlocal ^a", "def f():\n def g(a):1\n nonlocal ^a");
        DUE.fine("def f(a):\n def g():nonlocal a", "def f():\n def g():nonlocal a\n a=1",
            "def f():\n def a():nonlocal a", "def f():\n import a\n def g():nonlocal a",
            "def f():\n del a\n def g():nonlocal a", "def f():\n for a in b:1\n def g():nonlocal a",
            "def f():\n class a:nonlocal a", "def f():\n (a:=1)\n def g():nonlocal a",
            "def f():\n [(a:=1) for b in c]\n def g():nonlocal a", "def f(a):\n class B:nonlocal a",
            "def f(a):\n class B:\n  a=1\n  def h():nonlocal a",
            "def f(a):\n class B:\n  global a\n  def h():nonlocal a",
            "def f(a):\n def g():\n  nonlocal a\n  def h():nonlocal a",
            "def f(a):\n def g():\n  def h():nonlocal a");
    }

    private static void strayReturn() {
        DUE.says("7 return that lies in another scope than a def");
        error(7, "^return", "^return a", "if a:^return", "while a:\n ^return", "class A:^return 1",
            "def f():\n class A:^return", "def f():return\n^return", "def f():\n return\n^return",
            "^return\nreturn", "def f():\n class A:\n  def g():return\n  ^return");
        DUE.fine("def f():return", "def f():return a", "def f():\n if a:return\n else:return",
            "class A:\n def f():return", "def f():\n class A:1\n return", "def f():\n lambda:1\n return",
            "def f():\n for a in b:\n  while c:\n   return d");
    }

    private static void walrusInClass() {
        DUE.says("8 the NAME before := in a comprehension (not in its source) that belongs to a class");
        error(8, "class A:[(^a:=1) for b in c]", "class A:\n if b:[(^a:=1) for b in c]",
            "class A:[[(^a:=1) for b in c] for d in e]", "class A:[[b for c in (^a:=1)] for d in e]",
            "class A:[b for c in [(^a:=1) for d in e]]", "def f():\n class A:[(^a:=1) for b in c]",
            "class A:lambda:1\nclass B:[f((^a:=1)) for b in c]");
        error(10, "class A:[b for c in (^a:=1)]");
        DUE.fine("class A:(a:=1)", "class A:[lambda:(a:=1) for b in c]", "[(a:=1) for b in c]",
            "class A:lambda:[(a:=1) for b in c]", "class A:\n def f():[(a:=1) for b in c]",
            "class A:1\n[(a:=1) for b in c]", "class A:[(a)for b in c]+[(a:=1)]",
            "class A:f([b for b in c],(a:=1))");
    }

    private static void walrusOnTarget() {
        DUE.says("9 the NAME before := which is the name behind for in a comprehension in which it stands"
            + " (not in its source), or in one around that, and so on, as long as no other scope lies"
            + " between");
        error(9, "[(^a:=1) for a in b]", "[f((^a:=1)) for a in b]", "[[(^a:=1)] for a in b]",
            "[[(^a:=1) for b in c] for a in d]", "[[[(^a:=1) for b in c] for d in e] for a in f]",
            "[[[(^a:=1) for b in c] for a in e] for d in f]", "lambda:[(^a:=1) for a in b]",
            "[lambda:[(^a:=1) for a in b] for c in d]", "[[b for c in (^a:=1)] for a in d]",
            "def f():[(^a:=1) for a in b]", "[lambda a:[(^b:=1) for b in c] for b in d]");
        error(10, "[b for a in (^a:=1)]");
        DUE.fine("[(a:=1) for b in c]", "[(a:=1) for aa in c]", "[lambda:(a:=1) for a in b]",
            "[lambda:[(a:=1) for b in c] for a in d]", "[[lambda:(a:=1) for a in b] for a in c]",
            "[a for a in b]+[(a:=1) for b in c]", "[a for a in b]+(a:=1)", "[(a:=1) for b in [a for a in c]]",
            "for a in b:[(a:=1) for c in d]", "lambda a:[(a:=1) for b in c]", "([a for a in b])((a:=1))");
    }

    private static void walrusInSource() {
        DUE.says("10 the NAME before := anywhere in the source of a comprehension (also in a lambda or"
            + " comprehension there)");
        error(10, "[a for b in (^c:=1)]", "[a for b in f((^c:=1))]", "[a for b in d+(^c:=1)]",
            "[a for b in lambda:(^c:=1)]", "[a for b in lambda:lambda:(^c:=1)]",
            "[a for b in [(^c:=1) for d in e]]", "[a for b in [c for d in (^e:=1)]]",
            "[a for b in [lambda:(^c:=1) for d in e]]", "[a for b in [c for d in e]+(^f:=1)]",
            "[[a for b in (^c:=1)] for d in e]", "[lambda:[a for b in (^c:=1)] for d in e]",
            "[a for b in (lambda c:(^c:=1))]", "class A:[a for b in lambda:(^c:=1)]",
            "[a for b in lambda:[(^c:=1) for d in e]]");
        DUE.fine("[(c:=1) for a in b]", "[a for b in c]+(d:=1)", "(d:=1)+[a for b in c]",
            "[[a for b in c]+(f:=1) for d in e]", "for a in (b:=1):c", "f([a for b in c],(d:=1))",
            "(a:=[b for c in d])", "[a for b in c]\n(d:=1)");
    }

    private static void whereErrorsStand() {
        DUE.says("ERRORS of an accepted text, each at an occurrence (or, 7, at the word)");
        error(1, "lambda abc,  ^abc:1");
        error(2, "def f(abc):\n  global  b, ^abc");
        error(3, "abc\nglobal b,^abc");
        error(4, "nonlocal   ^abc");
        error(5, "def f(ab):\n def g():\n  global ab\n  nonlocal  ^ab");
        error(6, "def f():nonlocal  ^abc");
        error(7, "pass\nif a:  ^return abc");
        error(8, "class A: [ ( ^abc := 1) for b in c]");
        error(9, "[(\n^abc:=1) for abc in b]");
        error(10, "[a for b in ( ^abc:=1)]");
        DUE.checkIs("lambda a,a:1)", 20, 12);
        DUE.checkIs("nonlocal a\n(", 20, 12);
    }

    private static void firstByPlace() {
        DUE.says("The text's error is the first by place");
        error(4, "nonlocal ^a\nreturn");
        error(7, "^return\nnonlocal a", "^return lambda a,a:1", "if a:^return (b)\nnonlocal a");
        error(1, "lambda a,^a:1\nreturn", "def f(a,^a):1\nlambda b,b:1");
        error(10, "[a for b in (^c:=1)]\nlambda a,a:1", "[a for b in (^c:=1)]\nreturn");
        error(9, "[(^a:=1) for a in b]\nnonlocal c");
        error(6, "def f():\n nonlocal ^a\n global a", "def f():nonlocal ^a\nlambda a,a:1");
        error(3, "a\nglobal ^a\nnonlocal b", "a\nb\nglobal ^b,a");
        error(8, "class A:\n [(^a:=1) for b in c]\n return");
        error(5, "def f(a):\n def g():\n  global a\n  nonlocal ^a\n  nonlocal b");
        error(2, "def f(a):global ^a\nlambda a,a:1");
    }

    private static void leastNumber() {
        DUE.says("of those at one place the least number");
        error(2, "def f(a):global ^a", "def f(a):nonlocal ^a");
        error(3, "a\nnonlocal ^a", "global a\na\nnonlocal ^a", "def f():\n a\n nonlocal ^a",
            "def f(a):\n def g():\n  global a\n  a\n  nonlocal ^a");
        error(4, "global a\nnonlocal ^a");
        error(5, "def f():\n global a\n nonlocal ^a");
        error(8, "class A:[(^a:=1) for a in b]", "class A:[[b for c in (^a:=1)] for d in e]",
            "class A:[[b for c in (^a:=1)] for a in e]");
        error(9, "[[b for c in (^a:=1)] for a in d]", "[a for b in [(^c:=1) for c in d]]");
    }

    private static void fineWhenNone() {
        DUE.says("The text is FINE when it is accepted and has none.");
        DUE.fine("", "pass", "a", "a=b", "def f(a):return a");
        DUE.is("resolve(0) of a fine text", Due.server("a").resolve(0), 6);
        for (String text : new String[] {"a\nlambda b,b:1", "a\ndef f(b):global b", "a\nglobal a",
            "a\nnonlocal b", "a\ndef f():\n global b\n nonlocal b", "a\ndef f():nonlocal b", "a\nreturn",
            "a\nclass A:[(b:=1) for c in d]", "a\n[(b:=1) for b in c]", "a\n[b for c in (d:=1)]"}) {
            DUE.resolveIs(text, 0, Due.NONE);
            DUE.is("name(0) of " + Due.shown(text), Due.server(text).name(0), 0);
        }
    }
}
