/** The borders that the document names for grammar, nesting and faults; promises 7 and 8. */
public final class GrammarEdgeTest {
    private static final Due DUE = new Due();

    public static void main(String[] args) {
        files();
        statements();
        passes();
        declarations();
        delAndImport();
        returns();
        assignments();
        functions();
        classes();
        conditions();
        elses();
        loops();
        parameters();
        bodies();
        expressions();
        items();
        squareItems();
        walruses();
        comprehensions();
        calls();
        tenInOneAnother();
        bracketsNest();
        bodiesNest();
        simpleBodiesNest();
        bodiesForThemselves();
        bracketsOfDefDoNotNest();
        lambdasNest();
        tooDeep();
        couldNotStandAnyway();
        theFirstFault();
        acceptedWhenNone();
        checkAnswers();
        placeAnswers();
        DUE.end("GrammarEdgeTest");
    }

    /** An error does not hinder that a text is accepted. */
    private static void accepted(String... texts) {
        for (String text : texts) {
            BindingServer x = Due.server(text);
            DUE.isTrue(Due.shown(text) + " is accepted", x.check() < 20);
            DUE.is("scope(0) of " + Due.shown(text), x.scope(0), 0);
        }
    }

    private static void fault(String text, int place) {
        DUE.checkIs(text, 20, place);
    }

    private static void deepFault(String text, int place) {
        DUE.checkIs(text, 21, place);
    }

    // ---- statements

    private static void files() {
        DUE.says("file = any number of statements, END.");
        DUE.fine("", "\n", "  #", "a", "a\nb", "a\n".repeat(100), "if a:b\n".repeat(28));
    }

    private static void statements() {
        DUE.says("statement = simple NEWLINE, or compound.");
        fault("a b", 2);
        fault("a pass", 2);
        fault("pass def f():a", 5);
        fault("a)", 1);
        fault("in", 0);
        fault(",", 0);
        fault(":", 0);
        fault("=", 0);
        fault(":=", 0);
        fault("?", 0);
        fault(" a", 1);
        fault("a\n b", 3);
    }

    private static void passes() {
        DUE.says("simple = pass");
        accepted("pass", "pass\npass", "if a:pass");
        fault("pass pass", 5);
        fault("pass()", 4);
        fault("pass=1", 4);
        fault("a=pass", 2);
        fault("pass+a", 4);
    }

    private static void declarations() {
        DUE.says("global NAME and any number of , NAME, or nonlocal NAME and any number of , NAME");
        for (String word : new String[] {"global", "nonlocal"}) {
            int n = word.length();
            accepted(word + " a", word + " a,b", word + " a,a", word + " a,b,c,d,e");
            fault(word, n);
            fault(word + " 1", n + 1);
            fault(word + " ,a", n + 1);
            fault(word + " a,", n + 3);
            fault(word + " a,,b", n + 3);
            fault(word + " a b", n + 3);
            fault(word + " a=1", n + 2);
            fault(word + " (a)", n + 1);
            fault(word + " a+b", n + 2);
            fault(word + " pass", n + 1);
        }
        DUE.is("names() of many", Due.server("global a" + ",a".repeat(96)).names(), 97);
        DUE.is("names() of many", Due.server("nonlocal a" + ",a".repeat(95)).names(), 96);
    }

    private static void delAndImport() {
        DUE.says("or del NAME, or import NAME");
        for (String word : new String[] {"del", "import"}) {
            int n = word.length();
            accepted(word + " a");
            fault(word, n);
            fault(word + " 1", n + 1);
            fault(word + " a,b", n + 2);
            fault(word + " a b", n + 3);
            fault(word + " (a)", n + 1);
            fault(word + " a()", n + 2);
            fault(word + " a=1", n + 2);
            fault(word + " in", n + 1);
        }
    }

    private static void returns() {
        DUE.says("or return, or return expr");
        accepted("return", "return a", "return lambda:a", "return a+b", "return (a:=b)");
        fault("return a b", 9);
        fault("return return", 7);
        fault("return pass", 7);
        fault("return a=b", 8);
        fault("return a,b", 8);
        fault("return+a", 6);
        fault("return a+", 9);
    }

    private static void assignments() {
        DUE.says("or NAME = expr, or expr.");
        accepted("a=b", "a=lambda:b", "a=(b:=c)", "a", "1", "lambda:a", "a()");
        fault("a=", 2);
        fault("a=b=c", 3);
        fault("1=a", 1);
        fault("(a)=b", 3);
        fault("f()=a", 3);
        fault("a+b=c", 3);
        fault("=a", 0);
        fault("a==b", 2);
        fault("a:=b", 1);
        fault("a=b,c", 3);
        fault("a,b=c", 1);
        fault("lambda=a", 6);
        fault("a=b c", 4);
    }

    private static void functions() {
        DUE.says("compound = def NAME ( parameters ) : body");
        accepted("def f():a", "def f(a,b):\n c");
        fault("def", 3);
        fault("def f", 5);
        fault("def f:a", 5);
        fault("def f(", 6);
        fault("def f()", 7);
        fault("def f():", 8);
        fault("def f():\n", 9);
        fault("def (a):b", 4);
        fault("def 1():a", 4);
        fault("def if():a", 4);
        fault("def f[]:a", 5);
        fault("def f()():a", 7);
        fault("def f() a", 8);
        fault("def f(]:a", 6);
    }

    private static void classes() {
        DUE.says("or class NAME : body");
        accepted("class A:a", "class A:\n a");
        fault("class", 5);
        fault("class A", 7);
        fault("class A():a", 7);
        fault("class A(b):a", 7);
        fault("class 1:a", 6);
        fault("class :a", 6);
        fault("class A:", 8);
        fault("class A a", 8);
        fault("class A:=a", 7);
    }

    private static void conditions() {
        DUE.says("if expr : body");
        accepted("if a:b", "if lambda:a:b", "if (a:=b):c", "if a+b:c", "if a:\n b\n c");
        fault("if", 2);
        fault("if :a", 3);
        fault("if a", 4);
        fault("if a b", 5);
        fault("if a:=b:c", 4);
        fault("if a=b:c", 4);
        fault("if pass:a", 3);
        fault("if a:", 5);
    }

    private static void elses() {
        DUE.says("or if expr : body else : body");
        accepted("if a:b\nelse:c", "if a:\n b\nelse:c", "if a:b\nelse:\n c", "if a:\n if b:c\nelse:d",
            "if a:\n if b:c\n else:d", "if a:\n if b:c\n else:d\nelse:e", "if a:b\n\n#\nelse:c",
            "if a:b\nelse:c\nif d:e\nelse:f", "if a:b\nelse:\n if c:d\n else:e");
        fault("else:a", 0);
        fault("a\nelse:b", 2);
        fault("if a:b else:c", 7);
        fault("if a:b\nelse", 11);
        fault("if a:b\nelse:", 12);
        fault("if a:b\nelse:\n", 13);
        fault("if a:b\nelse a:c", 12);
        fault("if a:b\nelse if c:d", 12);
        fault("if a:b\nelse:if c:d", 12);
        fault("if a:b\nc\nelse:d", 9);
        fault("if a:b\nelse:c\nelse:d", 14);
        fault("if a:b\n else:c", 8);
        fault("if a:\n b\n else:c", 10);
        fault("while a:b\nelse:c", 10);
        fault("for a in b:c\nelse:d", 13);
        fault("def f():a\nelse:b", 10);
        fault("class A:a\nelse:b", 10);
    }

    private static void loops() {
        DUE.says("or while expr : body, or for NAME in expr : body.");
        accepted("while a:b", "while lambda:a:b", "for a in b:c", "for a in lambda:b:c",
            "for a in [b for c in d]:e");
        fault("while", 5);
        fault("while:a", 5);
        fault("while a", 7);
        fault("while a b", 8);
        fault("while a:", 8);
        fault("for", 3);
        fault("for 1 in a:b", 4);
        fault("for (a) in b:c", 4);
        fault("for a", 5);
        fault("for a b:c", 6);
        fault("for a,b in c:d", 5);
        fault("for a in:b", 8);
        fault("for a in b", 10);
        fault("for a in b c", 11);
        fault("for a in b:", 11);
    }

    private static void parameters() {
        DUE.says("parameters = nothing, or NAME and any number of , NAME.");
        accepted("def f():a", "def f(a):a", "def f(a,b):a", "lambda:a", "lambda a:a", "lambda a,b:a");
        fault("def f(,):a", 6);
        fault("def f(,a):a", 6);
        fault("def f(a,):a", 8);
        fault("def f(a,,b):a", 8);
        fault("def f(a b):a", 8);
        fault("def f(1):a", 6);
        fault("def f((a)):b", 6);
        fault("def f(a=1):b", 7);
        fault("def f(a+b):c", 7);
        fault("def f(lambda:a):b", 6);
        fault("def f(in):b", 6);
        fault("lambda ,:a", 7);
        fault("lambda a,:b", 9);
        fault("lambda a b:c", 9);
        fault("lambda 1:a", 7);
        fault("lambda (a):b", 7);
        fault("lambda a=1:b", 8);
        fault("lambda if:b", 7);
        DUE.is("names() of many", Due.server("def f(a" + ",a".repeat(95) + "):1").names(), 97);
        DUE.is("names() of many", Due.server("lambda a" + ",a".repeat(95) + ":1").names(), 96);
    }

    private static void bodies() {
        DUE.says("body = simple NEWLINE, or NEWLINE INDENT, one or more statements, DEDENT.");
        accepted("if a:b", "if a:\n b", "if a:\n b\n", "if a:\n b\nc", "if a: #c\n b", "if a:\n\n\n b",
            "if a:\n#c\n  #d\n b", "if a:\n b\n\nc", "if a:\n b\n c\n d", "if a:\n        b\nc",
            "if a:\n if b:\n  c\nd", "if a:\n if b:\n  c\n d", "if a:return", "if a:b=c", "if a:global b");
        fault("if a:", 5);
        fault("if a:\n", 6);
        fault("if a:\n\n  \n", 10);
        fault("if a:\nb", 6);
        fault("if a:\n?", 6);
        fault("if a:\n ?", 7);
        fault("if a:if b:c", 5);
        fault("if a:def f():b", 5);
        fault("if a:class B:b", 5);
        fault("if a:while b:c", 5);
        fault("if a:for b in c:d", 5);
        fault("if a:b\n c", 8);
        fault("if a:\n b\n  c", 11);
        fault("if a:\n  b\n c", 11);
        fault("if a:\n if b:\nc", 13);
        fault("if a:\n if b:\n c", 14);
        fault("if a:\n if b:\n", 13);
    }

    // ---- expressions

    private static void expressions() {
        DUE.says("expr = lambda parameters : expr, or item and any number of + item.");
        accepted("a", "a+b", "a+b+c", "lambda:a+b", "lambda:lambda:a", "(lambda:a)+b",
            "a+".repeat(99) + "a");
        fault("+a", 0);
        fault("a+", 2);
        fault("a++b", 2);
        fault("a+lambda:b", 2);
        fault("lambda", 6);
        fault("lambda:", 7);
        fault("lambda a", 8);
        fault("lambda:pass", 7);
        fault("lambda:a=b", 8);
        fault("lambda:a:b", 8);
        fault("lambda:=a", 6);
        fault("a lambda:b", 2);
        fault("a,b", 1);
    }

    private static void items() {
        DUE.says("item = NAME, or NUMBER, or ( expr )");
        accepted("a", "1", "(a)", "(1)", "((a))", "(lambda:a)", "(\na\n)", "(a+b)+c");
        fault("()", 1);
        fault("(a", 2);
        fault("(\n\na\n", 4);
        fault("(a]", 2);
        fault("(a))", 3);
        fault("(a,b)", 2);
        fault("(a b)", 3);
        fault("(a=b)", 2);
        fault("(pass)", 1);
        fault("(a\npass)", 3);
        fault("1 2", 2);
        fault("1a", 1);
        fault(")", 0);
    }

    private static void squareItems() {
        DUE.says("or [ expr ]");
        accepted("[a]", "[1]", "[[a]]", "[lambda:a]", "[(a)]", "[a+b]+c", "[\na\n]");
        fault("[]", 1);
        fault("[a", 2);
        fault("[a)", 2);
        fault("[a]]", 3);
        fault("[a,b]", 2);
        fault("[a b]", 3);
        fault("[a=b]", 2);
        fault("a[b]", 1);
        fault("a()[b]", 3);
        fault("[a][b]", 3);
        fault("]", 0);
    }

    private static void walruses() {
        DUE.says("or ( NAME := expr )");
        accepted("(a:=b)", "(a:=lambda:b)", "(a:=(b:=c))", "f((a:=b))", "[(a:=b)]", "(a:=b)()");
        fault("(a:=)", 4);
        fault("(:=a)", 1);
        fault("(1:=a)", 2);
        fault("((a):=b)", 4);
        fault("(a+b:=c)", 4);
        fault("(a():=b)", 4);
        fault("(a:=b:=c)", 5);
        fault("(a: =b)", 2);
        fault("[a:=b]", 2);
        fault("f(a:=b)", 3);
        fault("lambda:a:=b", 8);
        fault("a+b:=c", 3);
    }

    private static void comprehensions() {
        DUE.says("or [ expr for NAME in expr ] (a COMPREHENSION; the second expr is its SOURCE)");
        accepted("[a for b in c]", "[lambda:a for b in lambda:c]", "[a+b for c in d+e]", "[a for b in c]()",
            "[[a for b in c] for d in e]", "[a for b in [c for d in e]]", "[\na\nfor\nb\nin\nc\n]",
            "[[a] for b in [c]]", "[f(a) for b in f(c)]", "[1for a in 1]", "[a]+[b for c in d]",
            "[a]([b for c in d])", "[a]\nfor b in c:d", "[[a]+[b for c in d]]");
        fault("[for b in c]", 1);
        fault("[a for]", 6);
        fault("[a for 1 in c]", 7);
        fault("[a for (b) in c]", 7);
        fault("[a for b,c in d]", 8);
        fault("[a for b c]", 9);
        fault("[a for b]", 8);
        fault("[a for b in]", 11);
        fault("[a for b in c", 13);
        fault("[a for b in c)", 13);
        fault("[a for b in c,d]", 13);
        fault("[a for b in c for d in e]", 14);
        fault("[a for b in c if d]", 14);
        fault("[a in b]", 3);
        fault("[a,b for c in d]", 2);
        fault("(a for b in c)", 3);
        fault("f(a for b in c)", 4);
        fault("a for b in c", 2);
        fault("[(a for b in c)]", 4);
    }

    private static void calls() {
        DUE.says("or item ( ), or item ( expr and any number of , expr ).");
        accepted("f()", "f(a)", "f(a,b)", "f(a,b,c)", "f()()", "f(a)(b)(c)", "1()", "(a)()", "[a](b)",
            "f(lambda:a,b)", "f(lambda a,b:c,d)", "f(\na,\nb\n)", "a" + "()".repeat(99),
            "f(a" + ",a".repeat(98) + ")");
        fault("f(", 2);
        fault("f(a", 3);
        fault("f(a,", 4);
        fault("f(,)", 2);
        fault("f(,a)", 2);
        fault("f(a,)", 4);
        fault("f(a,,b)", 4);
        fault("f(a b)", 4);
        fault("f(a]", 3);
        fault("f(a=b)", 3);
        fault("f(pass)", 2);
        fault("f() a", 4);
        fault("lambda:a,b", 8);
    }

    // ---- nesting

    /** One more level around what stands at X, and where in it the token stands that opens it. */
    private static final String[] LEVELS = {"(X)", "[X]", "(a:=X)", "lambda:X", "lambda a,b:X",
        "[X for b in c]", "[a for b in X]"};
    private static final String[] CALLS = {"f(X)", "1(X)", "f(2,X)", "f(X,2)"};

    private static String around(String level, int times) {
        String text = "X";
        for (int i = 0; i < times; i++) {
            text = text.replace("X", level);
        }
        return text;
    }

    private static void tenInOneAnother() {
        DUE.says("A ( or [ of an item, a lambda, or a : before a body that is the eleventh one in the"
            + " other is TOO DEEP.");
        for (String level : LEVELS) {
            for (String inside : new String[] {"z", "1+z"}) {
                accepted(around(level, 10).replace("X", inside));
            }
            String eleven = around(level, 11);
            int ten = around(level, 10).indexOf('X');
            deepFault(eleven.replace("X", "z"), ten);
        }
        for (String level : CALLS) {
            accepted(around(level, 10).replace("X", "z"), around(level, 9).replace("X", "z()"));
            int ten = around(level, 10).indexOf('X');
            deepFault(around(level, 11).replace("X", "z"), ten + 1);
            deepFault(around(level, 10).replace("X", "z()"), ten + 1);
        }
        for (String level : LEVELS) {
            int nine = around(level, 9).indexOf('X');
            accepted(around(level, 9).replace("X", "(z)"), around(level, 9).replace("X", "[z]"),
                around(level, 9).replace("X", "z(y)"), around(level, 9).replace("X", "lambda:z"));
            deepFault(around(level, 9).replace("X", "((z))"), nine + 1);
            deepFault(around(level, 9).replace("X", "[[z]]"), nine + 1);
            deepFault(around(level, 9).replace("X", "z(y())"), nine + 3);
            deepFault(around(level, 9).replace("X", "lambda:(z)"), nine + 7);
        }
    }

    private static void bracketsNest() {
        DUE.says("of ( ) and [ ] of items");
        accepted("([".repeat(5) + "a" + "])".repeat(5), "[(".repeat(5) + "a" + ")]".repeat(5),
            "f([".repeat(5) + "a" + "])".repeat(5), "f((a:=".repeat(5) + "a" + "))".repeat(5));
        deepFault("([".repeat(5) + "(a)" + "])".repeat(5), 10);
        deepFault("[(".repeat(5) + "[a]" + ")]".repeat(5), 10);
        deepFault("f([".repeat(5) + "f(a)" + "])".repeat(5), 16);
        deepFault("f((a:=".repeat(5) + "f(a)" + "))".repeat(5), 31);
    }

    /** Bodies in one another, the innermost still to be written behind so many blanks. */
    private static String bodies(int count) {
        StringBuilder text = new StringBuilder();
        for (int i = 0; i < count; i++) {
            text.append(" ".repeat(i)).append("if a:\n");
        }
        return text.append(" ".repeat(count)).toString();
    }

    private static void bodiesNest() {
        DUE.says("NESTING at a token: the number of bodies");
        for (int count = 0; count <= 10; count++) {
            String text = bodies(count);
            int rest = 10 - count;
            accepted(text + "(".repeat(rest) + "a" + ")".repeat(rest));
            deepFault(text + "(".repeat(rest + 1) + "a" + ")".repeat(rest + 1), text.length() + rest);
            deepFault(text + "[".repeat(rest + 1), text.length() + rest);
        }
        String ten = bodies(10);
        int n = ten.length();
        accepted(ten + "pass", ten + "a=b+1", ten + "return a", ten + "global a\n" + " ".repeat(10) + "a");
        deepFault(ten + "if b:c", n + 4);
        deepFault(ten + "while b:c", n + 7);
        deepFault(ten + "for b in c:d", n + 10);
        deepFault(ten + "class B:c", n + 7);
        deepFault(ten + "def f():c", n + 7);
        deepFault(ten + "if b:\n" + " ".repeat(11) + "c", n + 4);
        deepFault(ten + "lambda:a", n);
        deepFault(ten + "a=(b)", n + 2);
        deepFault(ten + "return [b]", n + 7);
        deepFault(ten + "a()", n + 1);
        deepFault(ten + "if (b):c", n + 3);
    }

    private static void simpleBodiesNest() {
        DUE.says("(also simple ones, and that behind else, each for what is in it alone)");
        for (String head : new String[] {"if a:", "while a:", "for a in b:", "def f():", "class A:",
            "if a:b\nelse:"}) {
            String nine = "(".repeat(9) + "a" + ")".repeat(9);
            accepted(head + nine, head + "b=" + nine, head + "return " + nine);
            deepFault(head + "(" + nine + ")", head.length() + 9);
            accepted(head + "\n " + nine);
            deepFault(head + "\n (" + nine + ")", head.length() + 2 + 9);
        }
        String text = bodies(9);
        accepted(text + "if a:b", text + "if a:b\n" + " ".repeat(9) + "else:c", text + "if (a):b");
        deepFault(text + "if a:(b)", text.length() + 5);
        deepFault(text + "if ((a)):b", text.length() + 4);
        deepFault(text + "if a:b\n" + " ".repeat(9) + "else:(c)", text.length() + 7 + 9 + 5);
    }

    private static void bodiesForThemselves() {
        DUE.says("each for what is in it alone");
        String ten = "(".repeat(10) + "a" + ")".repeat(10);
        String nine = "(".repeat(9) + "a" + ")".repeat(9);
        accepted("if a:" + nine + "\nelse:" + nine + "\n" + ten, "if a:\n " + nine + "\n" + ten,
            "if " + ten + ":" + nine, "while " + ten + ":a\n" + ten, "for a in " + ten + ":" + nine);
        deepFault("if (" + ten + "):a", 13);
        accepted(ten + "+" + ten, ten + "()", ten + "(a)(b)", "f(" + nine + "," + nine + ")",
            "(a)" + "+(a)".repeat(20), "a" + "()".repeat(30), "[a]" + "+[a]".repeat(20));
        accepted("[" + nine + " for a in " + nine + "]");
        accepted(bodies(10) + "a\n" + "if a:\n if a:\n  if a:\n   b");
        accepted("(lambda:a)" + "+(lambda:a)".repeat(12));
    }

    private static void bracketsOfDefDoNotNest() {
        DUE.says("(a call's too, not those of def)");
        String nine = bodies(9);
        String ten = bodies(10);
        accepted(nine + "def f(a,b):c");
        deepFault(ten + "def f(a,b):c", ten.length() + 10);
        fault(ten + "def f((", ten.length() + 6);
        fault(ten + "def f(a)(", ten.length() + 8);
    }

    private static void lambdasNest() {
        DUE.says("and of exprs with lambda (its parameters are in it) that it stands in");
        accepted("lambda a:".repeat(10) + "b", "lambda:(".repeat(5) + "a" + ")".repeat(5),
            "f(lambda:a" + ",lambda:a".repeat(15) + ")", "if lambda:a:b");
        deepFault("lambda a:".repeat(11) + "b", 90);
        deepFault("lambda:(".repeat(5) + "lambda:a" + ")".repeat(5), 40);
        deepFault("lambda:(".repeat(5) + "(a)" + ")".repeat(5), 40);
        deepFault("lambda:".repeat(10) + "a()", 71);
        deepFault("lambda:".repeat(10) + "1+[a]", 72);
    }

    // ---- faults

    private static void tooDeep() {
        DUE.says("code 20 for the latter, 21 for the former");
        deepFault("(".repeat(11), 10);
        fault("(".repeat(10), 10);
        deepFault("(".repeat(200), 10);
        deepFault("[".repeat(200), 10);
        fault("(".repeat(10) + "?", 10);
        fault("(".repeat(10) + ")", 10);
        deepFault("(".repeat(10) + "a+(", 12);
        deepFault("(".repeat(10) + "a:=(", 13);
        deepFault("(".repeat(10) + "lambda", 10);
        deepFault("(".repeat(10) + "a(", 11);
        deepFault("(".repeat(10) + "1(", 11);
        fault("(".repeat(9) + "(a)(", 13);
        deepFault("(".repeat(9) + "(a)((", 13);
    }

    private static void couldNotStandAnyway() {
        DUE.says("(a ( or [ that could not stand there anyway is 20)");
        fault("(".repeat(10) + "a[", 11);
        fault("(".repeat(10) + "1[", 11);
        fault("(".repeat(10) + "a+1[", 13);
        fault("(".repeat(10) + "a)[", 12);
        fault("(".repeat(10) + "a,(", 11);
        fault("(".repeat(10) + "a=(", 11);
        fault("[".repeat(10) + "a for (", 16);
        fault("[".repeat(10) + "a for [", 16);
        fault("[".repeat(10) + "a for b (", 18);
        fault("(".repeat(10) + "a lambda", 12);
        fault("(".repeat(10) + "a+lambda:b", 12);
        String ten = bodies(10);
        int n = ten.length();
        fault(ten + "pass(", n + 4);
        fault(ten + "pass[", n + 4);
        fault(ten + "global (", n + 7);
        fault(ten + "nonlocal [", n + 9);
        fault(ten + "del (", n + 4);
        fault(ten + "import [", n + 7);
        fault(ten + "def (", n + 4);
        fault(ten + "class A(", n + 7);
        fault(ten + "for (", n + 4);
        fault(ten + "a:b", n + 1);
        fault(ten + "pass:", n + 4);
        fault(ten + "else:b", n);
    }

    private static void theFirstFault() {
        DUE.says("The first token that is too deep, or with which no file can go on after the tokens"
            + " before it, is a fault");
        fault("a b\n" + "(".repeat(11), 2);
        fault("?" + "(".repeat(11), 0);
        fault("a b\nc d", 2);
        deepFault("(".repeat(11) + "?", 10);
        deepFault("(".repeat(12) + ")))", 10);
        deepFault("a\n" + "(".repeat(11) + "\nb c", 12);
        fault("if a", 4);
        fault("(a\nb", 3);
        fault("(", 1);
        fault("def f(a", 7);
    }

    private static void acceptedWhenNone() {
        DUE.says("the text is ACCEPTED when there is none");
        for (String text : new String[] {"", "a", "return", "nonlocal a", "lambda a,a:1"}) {
            accepted(text);
            DUE.isTrue("names() of " + text, Due.server(text).names() >= 0);
        }
        for (String text : new String[] {"a b", "(", "(".repeat(11) + "a" + ")".repeat(11)}) {
            BindingServer x = Due.server(text);
            DUE.is("scopes() of " + text, x.scopes(), Due.NONE);
            DUE.is("names() of " + text, x.names(), Due.NONE);
        }
    }

    // ---- promises 7 and 8

    private static void checkAnswers() {
        DUE.says("0 when the text is fine, else the code of its fault, or when it is accepted the"
            + " number of its error.");
        DUE.is("fine", Due.server("a").check(), 0);
        DUE.is("fault", Due.server("a b").check(), 20);
        DUE.is("too deep", Due.server("(".repeat(11)).check(), 21);
        DUE.is("error", Due.server("return").check(), 7);
        DUE.is("error, then a fault", Due.server("return\n)").check(), 20);
        DUE.is("fault, then an error", Due.server("a b\nreturn").check(), 20);
        DUE.is("error, then too deep", Due.server("return\n" + "[".repeat(11)).check(), 21);
        BindingServer x = Due.server("return\n)");
        DUE.is("place() of the fault", x.place(), 7);
        x.edit(7, 1, 0);
        DUE.is("the fault is mended", x.check(), 7);
        DUE.is("place() of the error", x.place(), 0);
        x.edit(0, 6, 0);
        DUE.is("the error is mended", x.check(), 0);
        DUE.is("place() of none", x.place(), Due.NONE);
    }

    private static void placeAnswers() {
        DUE.says("Where the fault or error of check stands: the beginning of its token; NONE when the"
            + " text is fine.");
        fault("a bcd", 2);
        fault("a   bcd", 4);
        fault("a+   # b", 2);
        fault("a\n   b", 5);
        fault("if a:\n if b:\nc", 13);
        fault("if a:\n if b:\n\n\n", 15);
        fault("if a:\n   \n#\n", 12);
        fault("if a:\n  b\n c", 11);
        fault("a" + " ".repeat(198) + "b", 199);
        fault("a" + " ".repeat(198) + "+", 200);
        DUE.checkIs("\n".repeat(194) + "return", 7, 194);
        DUE.checkIs("lambda abc,abc:1", 1, 11);
        DUE.fine("", "a", "a".repeat(200));
    }
}
