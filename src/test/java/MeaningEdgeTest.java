/** The borders that the document names for what occurrences stand for: promises 14 to 16. */
public final class MeaningEdgeTest {
    private static final int NONE = Due.NONE;
    private static final int MIN = Integer.MIN_VALUE;
    private static final int MAX = Integer.MAX_VALUE;
    private static final int LOCAL = 1;
    private static final int CELL = 2;
    private static final int FREE = 3;
    private static final int GLOBAL = 4;
    private static final int KNOWN = 5;
    private static final int MISSING = 6;

    private static final Due DUE = new Due();

    public static void main(String[] args) {
        searchGoesOut();
        searchLeavesClassesOut();
        searchEndsAtGlobal();
        searchFinds();
        searchEndsAtModule();
        globals();
        nonlocals();
        locals();
        cells();
        frees();
        known();
        missing();
        variables();
        placesOfOccurrences();
        whatResolveAnswers();
        resolveIsNone();
        firstThatBinds();
        definitionIsNone();
        referencesByPlace();
        referenceIsNone();
        DUE.end("MeaningEdgeTest");
    }

    /** The occurrence at the mark. */
    private static void stands(int kind, int of, int belongs, String... marked) {
        for (String text : marked) {
            DUE.resolveIs(Due.withoutMark(text), Due.markedPlace(text), Due.what(kind, of, belongs));
        }
    }

    // ---- SEARCH

    private static void searchGoesOut() {
        DUE.says("SEARCH from s: the parent of s, then its parent, and so on");
        stands(FREE, 1, 2, "def f(a):lambda:^a", "lambda a:lambda:^a", "def f(a):\n def g():^a",
            "lambda a:[^a for b in c]", "[lambda:^a for a in b]", "[[^a for b in c] for a in d]",
            "def f(a):\n class B:^a");
        stands(FREE, 1, 3, "lambda a:lambda:lambda:^a", "def f(a):\n def g():\n  def h():^a",
            "lambda a:[lambda:^a for b in c]", "lambda a:lambda b:[^a for c in d]");
        stands(FREE, 2, 3, "lambda a:lambda a:lambda:^a", "lambda:lambda a:lambda:^a",
            "def f(a):\n def g(a):\n  def h():^a");
        stands(FREE, 1, 5, "lambda a:lambda:lambda:lambda:lambda:^a");
        stands(MISSING, 0, 2, "lambda a:1\nlambda:^a", "(lambda a:1)+(lambda:^a)",
            "def f():\n lambda:^a\nlambda a:1");
    }

    private static void searchLeavesClassesOut() {
        DUE.says("classes left out");
        stands(MISSING, 0, 2, "class A:\n a=1\n def f():^a", "class A:\n a=1\n lambda:^a",
            "class A:\n a=1\n [^a for b in c]", "class A:\n def f():^a\n def a():1");
        stands(KNOWN, 0, 2, "a=1\nclass A:\n a=2\n lambda:^a");
        stands(FREE, 1, 3, "def f(a):\n class B:\n  a=1\n  def g():^a", "def f(a):\n class B:\n  lambda:^a",
            "def f(a):\n class B:\n  global a\n  lambda:^a",
            "def f(a):\n class B:\n  nonlocal a\n  lambda:^a",
            "def f(a):\n class B:\n  global a\n  def g():nonlocal ^a", "def f(a):\n class B:\n  class C:^a");
        stands(LOCAL, 1, 1, "class A:\n ^a=1\n lambda:a");
        stands(LOCAL, 1, 1, "class A:\n a=1\n [b for b in ^a]");
    }

    private static void searchEndsAtGlobal() {
        DUE.says("a scope (not the module) where the name is declared global ends it, it finds no scope");
        stands(MISSING, 0, 3, "def f(a):\n def g():\n  global a\n  def h():^a",
            "def f(a):\n def g():\n  global a\n  lambda:^a", "def f(a):\n def g():\n  lambda:^a\n  global a");
        stands(KNOWN, 0, 3, "def f(a):\n def g():\n  global a\n  a=1\n  lambda:^a",
            "import a\ndef f(a):\n def g():\n  global a\n  lambda:^a");
        stands(FREE, 1, 3, "def f(a):\n def g():\n  global b\n  lambda:^a");
        stands(FREE, 1, 2, "global a\ndef f(a):lambda:^a", "global a\ndef f(a):\n def g():nonlocal ^a");
    }

    private static void searchFinds() {
        DUE.says("one (not the module) where an occurrence that belongs to it binds the name and none"
            + " declares it is found");
        for (String binding : new String[] {"a=1", "import a", "del a", "for a in b:1", "def a():1",
            "class a:1", "(a:=1)", "[(a:=1) for b in c]"}) {
            int scopes = Due.server(binding).scopes() - 1;
            stands(FREE, 1, 2 + scopes, "def f():\n " + binding + "\n lambda:^a");
            stands(FREE, 1, 2, "def f():\n lambda:^a\n " + binding);
        }
        stands(MISSING, 0, 2, "def f():\n a\n lambda:^a", "lambda:f(a,lambda:^a)");
        stands(MISSING, 0, 3, "def f():\n [a for a in b]\n lambda:^a", "def f():\n lambda a:1\n lambda:^a",
            "def f():\n def g(a):1\n lambda:^a");
        stands(FREE, 1, 3, "def f(a):\n def g():\n  nonlocal a\n  a=1\n  lambda:^a",
            "def f(a):\n def g():\n  a\n  lambda:^a");
        stands(MISSING, 0, 2, "def f(aa):lambda:^a", "def f(a):lambda:^aa", "def f(A):lambda:^a");
    }

    private static void searchEndsAtModule() {
        DUE.says("at the module it ends, it finds no scope");
        stands(KNOWN, 0, 1, "a=1\nlambda:^a", "def f():^a\ndef a():1", "class A:^a\nimport a");
        stands(MISSING, 0, 1, "lambda:^a", "class A:^a", "[^a for b in c]");
        DUE.checkIs("a=1\ndef f():nonlocal a", 6, 21);
    }

    // ---- what it stands for

    private static void globals() {
        DUE.says("If in s the name is declared global: GLOBAL (4), of scope 0.");
        stands(GLOBAL, 0, 0, "global ^a", "global a\n^a", "global a\n^a=1", "global b,^a");
        stands(GLOBAL, 0, 1, "def f():global ^a", "def f():\n global a\n ^a", "def f():\n global a\n ^a=1",
            "class A:\n global a\n ^a=1", "def f():\n global a\n del ^a",
            "def f():\n global a\n for ^a in b:1",
            "def f():\n global a\n [(^a:=1) for b in c]");
        stands(GLOBAL, 0, 2, "def f(a):\n def g():\n  global ^a", "def f(a):\n def g():\n  global a\n  ^a");
        stands(KNOWN, 0, 0, "def f():global a\n^a=1", "def f():\n global a\n a=1\n^a");
        stands(MISSING, 0, 0, "def f():global a\n^a");
        stands(MISSING, 0, 2, "def f():\n global a\n lambda:^a");
        stands(LOCAL, 1, 1, "global a\nlambda ^a:1", "global a\ndef f():^a=1");
    }

    private static void nonlocals() {
        DUE.says("Declared nonlocal: FREE (3), of the scope that the search finds.");
        stands(FREE, 1, 2, "def f(a):\n def g():nonlocal ^a", "def f(a):\n def g():\n  nonlocal a\n  ^a=1",
            "def f(a):\n def g():\n  nonlocal a\n  ^a", "def f(a):\n class B:nonlocal ^a",
            "def f(a):\n class B:\n  nonlocal a\n  ^a=1", "def f():\n def g():nonlocal ^a\n a=1",
            "def f(a):\n def g():\n  nonlocal a\n  [(^a:=1) for b in c]");
        stands(FREE, 1, 3, "def f(a):\n def g():\n  def h():nonlocal ^a",
            "def f(a):\n def g():\n  nonlocal a\n  def h():nonlocal ^a");
        stands(FREE, 2, 3, "def f(a):\n def g(a):\n  def h():nonlocal ^a");
    }

    private static void locals() {
        DUE.says("Otherwise, if s is not the module and an occurrence that belongs to s binds it: LOCAL (1)"
            + " of scope s");
        stands(LOCAL, 1, 1, "def f(^a):1", "def f(a):^a", "def f():\n ^a\n a=1", "lambda ^a:1", "lambda a:^a",
            "class A:^a=1", "class A:\n ^a\n import a", "[^a for a in b]", "[a for ^a in b]",
            "def f():del ^a",
            "def f():\n if ^a:\n  for a in b:1", "lambda:(^a:=1)", "lambda:[(^a:=1) for b in c]",
            "a=1\ndef f(a):^a", "def f():\n [b for b in ^a]\n a=1");
        stands(LOCAL, 2, 2, "def f(a):\n def g(a):^a", "lambda a:lambda a:^a", "def f(a):\n class B:^a=1",
            "[[^a for a in b] for a in c]");
        stands(KNOWN, 0, 0, "^a=1", "[(^a:=1) for b in c]", "import ^a", "def ^a():1");
    }

    private static void cells() {
        DUE.says("or CELL (2) when some occurrence that belongs to another scope is FREE of scope s with"
            + " this name");
        stands(CELL, 1, 1, "def f(^a):lambda:a", "def f(a):f(^a,lambda:a)", "def f():\n ^a=1\n lambda:a",
            "def f():\n lambda:a\n ^a=1", "lambda ^a:lambda:a", "lambda ^a:[a for b in c]",
            "[lambda:a for ^a in b]", "[f(^a,lambda:a) for a in b]", "def f(^a):\n class B:a",
            "def f(^a):\n def g():nonlocal a", "lambda ^a:lambda:lambda:a", "[[a for b in c] for ^a in d]",
            "lambda:[(^a:=1)+a for b in c]", "def f(^a):\n def g():\n  def h():nonlocal a");
        stands(LOCAL, 1, 1, "def f(^a):lambda:b", "def f(^a):lambda a:a", "def f(^a):\n def g():global a",
            "def f(^a):1\nlambda:a", "class A:\n ^a=1\n lambda:a", "lambda ^a:[b for b in a]",
            "def f(^a):lambda:aa", "lambda:[(^a:=1) for b in c]", "def f(^a):lambda a:lambda:a");
        stands(CELL, 2, 2, "def f(a):lambda ^a:lambda:a", "class A:\n def f(^a):lambda:a");
        stands(LOCAL, 1, 1, "def f(^b):f(lambda a:lambda:a)");
    }

    private static void frees() {
        DUE.says("Otherwise, if s is not the module and the search finds a scope: FREE (3) of that.");
        stands(FREE, 1, 2, "lambda a:lambda:^a", "def f(a):\n class B:^a", "lambda:[(a:=1)+^a for b in c]",
            "lambda a:[^a for b in c]");
        stands(LOCAL, 1, 1, "lambda a:[b for b in ^a]");
        stands(KNOWN, 0, 0, "def f(a):1\n^a=1", "lambda a:1\nfor ^a in b:1");
    }

    private static void known() {
        DUE.says("Otherwise of scope 0: KNOWN (5) when some occurrence of that name binds it and belongs to"
            + " the module, or to a scope where it is declared global");
        for (String binding : new String[] {"a=1", "import a", "del a", "for a in b:1", "def a():1",
            "class a:1", "(a:=1)", "[(a:=1) for b in c]", "if b:a=1", "def f():\n global a\n a=1",
            "def f():\n global a\n def a():1", "class A:\n global a\n import a",
            "def f():\n global a\n [(a:=1) for b in c]"}) {
            stands(KNOWN, 0, 0, "^a\n" + binding);
            stands(KNOWN, 0, 1, "lambda:^a\n" + binding);
        }
        stands(KNOWN, 0, 0, "^a=1", "del ^a", "def f():\n global a\n a=1\n^a");
    }

    private static void missing() {
        DUE.says("if there is none: MISSING (6)");
        for (String other : new String[] {"1", "a", "lambda a:1", "def f(a):1", "def f():a=1", "class A:a=1",
            "[1 for a in b]", "lambda:(a:=1)", "def f():global a", "aa=1", "A=1", "b=a",
            "lambda:[(a:=1) for b in c]", "def f(a):\n def g():\n  nonlocal a\n  a=1", "class A:import a"}) {
            stands(MISSING, 0, 0, "^a\n" + other);
            stands(MISSING, 0, 1, "lambda:^a\n" + other);
        }
        stands(MISSING, 0, 0, "^a", "1+^a", "[1 for a in ^a]");
    }

    private static void variables() {
        DUE.says("Two occurrences (also those that declare) are of the same VARIABLE when they stand for the"
            + " same name and are of the same scope.");
        DUE.referencesAre("a\nb\na", 0, 0, 4);
        DUE.referencesAre("a\naa\nA\na", 0, 0, 7);
        DUE.referencesAre("def f():\n global a\n a\na=1", 17, 17, 20, 22);
        DUE.referencesAre("def f():\n global a\na", 19, 17, 19);
        DUE.referencesAre("def f(a):\n def g():\n  nonlocal a\n  a", 6, 6, 31, 35);
        DUE.referencesAre("def f(a):a\ndef g(a):a", 6, 6, 9);
        DUE.referencesAre("def f(a):a\ndef g(a):a", 17, 17, 20);
        DUE.referencesAre("a=1\ndef f(a):a\na", 0, 0, 15);
        DUE.referencesAre("[a for a in a]", 1, 1, 7);
        DUE.referencesAre("[a for a in a]", 12, 12);
        DUE.referencesAre("lambda a:lambda:a+b", 7, 7, 16);
        DUE.referencesAre("class A:\n a=1\n lambda:a\na=2", 10, 10);
        DUE.referencesAre("class A:\n a=1\n lambda:a\na=2", 22, 22, 24);
        DUE.referencesAre("def f():\n global a\n lambda:a\ndef g():global a", 17, 17, 27, 44);
        DUE.referencesAre("abcdefghi_1=abcdefghi_2+abcdefghi_1", 0, 0, 24);
    }

    // ---- promise 14

    private static void placesOfOccurrences() {
        DUE.says("What the occurrence whose characters include place p stands for");
        BindingServer x = Due.server("ab=(cde)");
        int[] row = {5, 5, NONE, NONE, 6, 6, 6, NONE, NONE};
        for (int p = 0; p < row.length; p++) {
            DUE.is("resolve(" + p + ")", x.resolve(p), row[p]);
        }
        DUE.resolveIs("a".repeat(200), 0, 6);
        DUE.resolveIs("a".repeat(200), 199, 6);
        DUE.resolveIs("a".repeat(200), 200, NONE);
        DUE.resolveIs("a+b", 1, NONE);
        DUE.resolveIs("a# a", 3, NONE);
        DUE.resolveIs("1+pass1", 2, 6);
    }

    private static void whatResolveAnswers() {
        DUE.says("1 LOCAL, 2 CELL, 3 FREE, 4 GLOBAL, 5 KNOWN, 6 MISSING");
        String all = "def f(a,b):\n global c\n lambda:b+d";
        int[] places = {6, 8, 30, 20, 4, 32};
        for (int kind = 1; kind <= 6; kind++) {
            DUE.is("kind at " + places[kind - 1], Due.server(all).resolve(places[kind - 1]) & 7, kind);
        }
        DUE.says("plus 8 times the scope that it is of, plus 512 times the scope that it belongs to");
        DUE.resolveIs("lambda a:lambda:lambda:a", 23, 3 + 8 + 512 * 3);
        String nested = "lambda:".repeat(9) + "1,";
        DUE.resolveIs("f(" + nested + nested + "lambda a:lambda:a)", 148, 3 + 8 * 19 + 512 * 20);
        DUE.resolveIs("f(" + nested + nested + "lambda a:lambda:a)", 139, 2 + 8 * 19 + 512 * 19);
    }

    private static void resolveIsNone() {
        DUE.says("NONE when there is no such occurrence, or the text is not fine.");
        BindingServer x = Due.server("a=1");
        for (int p : new int[] {1, 2, 3, 4, -1, 199, 200, 256, MIN, MAX}) {
            DUE.is("resolve(" + p + ")", x.resolve(p), NONE);
            DUE.is("definition(" + p + ")", x.definition(p), NONE);
            DUE.is("reference(" + p + ", 0)", x.reference(p, 0), NONE);
        }
        for (String text : new String[] {"a=1\n)", "a=1\nreturn", "a=1\nglobal a",
            "a=1\n" + "(".repeat(11)}) {
            BindingServer y = Due.server(text);
            DUE.is("resolve(0) of " + Due.shown(text), y.resolve(0), NONE);
            DUE.is("definition(0) of " + Due.shown(text), y.definition(0), NONE);
            DUE.is("reference(0, 0) of " + Due.shown(text), y.reference(0, 0), NONE);
        }
        x.edit(3, 0, ')');
        DUE.is("resolve(0) behind a fault", x.resolve(0), NONE);
        x.edit(3, 1, 0);
        DUE.is("resolve(0) behind its mending", x.resolve(0), 5);
    }

    // ---- promises 15 and 16

    private static void firstThatBinds() {
        DUE.says("Where the first occurrence (by place, whatever scope it belongs to) that binds, of the"
            + " variable of the occurrence at place p, begins");
        DUE.definitionIs("a\na=1\na=2", 0, 2);
        DUE.definitionIs("a\na=1\na=2", 6, 2);
        DUE.definitionIs("def f():\n global a\n a=1\na=2", 24, 20);
        DUE.definitionIs("a=1\ndef f():\n global a\n a=2", 24, 0);
        DUE.definitionIs("def f():\n def g():\n  nonlocal a\n  a=1\n a=2", 39, 34);
        DUE.definitionIs("def f(a):\n def g():\n  nonlocal a\n  a=1", 35, 6);
        DUE.definitionIs("def f():\n [(a:=1) for b in c]\n a=2\n a", 36, 12);
        DUE.definitionIs("lambda ab:lambda:ab", 18, 7);
        DUE.definitionIs("lambda ab:lambda:ab", 17, 7);
        DUE.definitionIs("a=1\nlambda a:a", 13, 11);
        DUE.definitionIs("a\ndel a", 0, 6);
        DUE.definitionIs("\n".repeat(196) + "a=1", 196, 196);
    }

    private static void definitionIsNone() {
        DUE.says("NONE when there is none, as for resolve, or none binds it.");
        DUE.definitionIs("a", 0, NONE);
        DUE.definitionIs("a+a", 2, NONE);
        DUE.definitionIs("global a", 7, NONE);
        DUE.definitionIs("def f():global a\na", 17, NONE);
        DUE.definitionIs("lambda a:1\na", 11, NONE);
        DUE.definitionIs("a=1", 1, NONE);
        DUE.definitionIs("a=1", 3, NONE);
        DUE.definitionIs("", 0, NONE);
        DUE.definitionIs("a=1\nreturn", 0, NONE);
        DUE.definitionIs("a=1)", 0, NONE);
    }

    private static void referencesByPlace() {
        DUE.says("Where occurrence k, by place, from 0, of the variable of the occurrence at place p begins");
        String text = "def f(a):\n a=b\n lambda:a\na";
        for (int p : new int[] {6, 11, 23}) {
            DUE.referencesAre(text, p, 6, 11, 23);
        }
        DUE.referencesAre(text, 4, 4);
        DUE.referencesAre(text, 13, 13);
        DUE.referencesAre(text, 25, 25);
        DUE.referencesAre("ab+ab", 1, 0, 3);
        DUE.referencesAre("ab+ab", 4, 0, 3);
        BindingServer many = Due.server("a+".repeat(99) + "a");
        for (int k = 0; k < 100; k++) {
            DUE.is("reference(198, " + k + ")", many.reference(198, k), 2 * k);
        }
        DUE.is("reference(198, 100)", many.reference(198, 100), NONE);
    }

    private static void referenceIsNone() {
        DUE.says("NONE when there is none, or as for resolve.");
        BindingServer x = Due.server("a+a");
        DUE.is("reference(0, 1)", x.reference(0, 1), 2);
        for (int k : new int[] {2, 3, 100, -1, -2, MIN, MAX}) {
            DUE.is("reference(0, " + k + ")", x.reference(0, k), NONE);
            DUE.is("reference(1, " + k + ")", x.reference(1, k), NONE);
        }
        for (int p : new int[] {1, 3, -1, MIN, MAX}) {
            DUE.is("reference(" + p + ", 0)", x.reference(p, 0), NONE);
        }
        DUE.is("of an empty text", new BindingServer().reference(0, 0), NONE);
    }
}
