import java.util.Map;
import java.util.TreeMap;

/** Holds the program against the model on many made-up texts; the same ones in every run. */
public final class ModelTest {
    private static final String[] NAMES = {"a", "b", "c", "x", "a", "b", "x", "_1", "long_name"};
    private static final String[] SOUP = {"a", "b", "x", "1", "(", ")", "[", "]", ",", ":", "=", ":=",
        "+", " ", "\n", "\n ", "\n  ", "#", "?", "class ", "def ", "del ", "else", "for ",
        "global ", "if ", "import ", " in ", "lambda ", "nonlocal ", "pass", "return ", "while ",
        "\nclass A:", "\ndef f(a):", ":\n ", "()", "[a for b in c]", "(a:=1)"};
    private static final int CALLS = 512;

    private final Due due = new Due();
    private final Map<Integer, Integer> seen = new TreeMap<>();
    private final int[] kinds = new int[8];
    private int renamed = 0;
    private int refused = 0;
    private long seed = 20261115L;

    public static void main(String[] args) {
        new ModelTest().run(args.length > 0 ? Integer.parseInt(args[0]) : 4000);
    }

    private void run(int rounds) {
        for (int i = 0; i < rounds; i++) {
            hold(program());
            hold(mutated(program()));
            hold(i % 4 == 0 ? deep() : mutated(program()));
            hold(soup());
        }
        for (String text : EDGES) {
            hold(text);
        }
        everyCodeWasMet();
        due.end("ModelTest");
    }

    /** Else the made-up texts would show little. */
    private void everyCodeWasMet() {
        for (int code : new int[] {0, 1, 2, 3, 4, 5, 6, 7, 8, 9, 10, 20, 21}) {
            due.isTrue("a text with code " + code + " was made", seen.containsKey(code));
        }
        for (int kind = 1; kind <= 6; kind++) {
            due.isTrue("an occurrence of kind " + kind + " was made", kinds[kind] > 0);
        }
        due.isTrue("something was renamed", renamed > 0);
        due.isTrue("a renaming was a conflict", refused > 0);
        System.out.println("codes met: " + seen + ", renamed " + renamed + ", conflicts " + refused);
    }

    private static final String[] EDGES = {
        "", " ", "\n", "#", "\n\n  # a\n", "a", " a", "a\n b", "a\n  b\n c", "if a:\n  b\n c\n",
        "if a:\n    b\n  c\n  d\ne\n", "1a", "a1 1", "::=", ":==", "(:=)", "(\n)", "(]\n)", ")(\n",
        "((((((((((a))))))))))", "(((((((((((a)))))))))))", "((((((((((a((((((((((", "((((((((((+(",
        "[a for a in [a for a in a]]", "[(a:=b) for b in c]", "[(b:=b) for b in c]",
        "[[(b:=1) for c in d] for b in e]", "[lambda:(b:=1) for b in c]",
        "[a for b in (b:=1)]", "[[a for c in (b:=1)] for b in d]", "[a for b in [(b:=1) for c in d]]",
        "class A: [(b:=1) for c in d]", "class A: [b for c in (b:=1)]",
        "class A: [[b for c in (b:=1)] for d in e]", "class A: [lambda:(b:=1) for c in d]",
        "def f():\n [(x:=1) for y in z]\n global x\n", "def f(x):\n global x\n",
        "def f(x,y,x): pass", "lambda x,x:1", "global x\nx=1\n", "x\nglobal x\n", "nonlocal x",
        "def f():\n global x\n nonlocal x\n", "def f():\n x=1\n def g():\n  nonlocal x\n  global x\n",
        "def f():\n x=1\n def g():\n  global x\n  def h():\n   nonlocal x\n",
        "def f():\n x=1\n class C:\n  global x\n  def h():\n   nonlocal x\n",
        "def f():\n x=1\n class C:\n  x=2\n  def h(): x\n", "return", "class A: return 1",
        "def f(): return\n", "def f():\n class A:\n  return\n", "def f():\n global x\n x\nx\n",
        "a\n a\na\n a\na\n a\na\n a\na\n a\na\n a\na\n a\na\n a\na\n a\na\n a\na\n a\na\n a\na\n a\n",
        "if a:\n if a:\n  if a:\n   if a:\n    if a:\n     if a:\n      if a:\n       if a:\n        if a:"
            + "\n         if a:\n          if a:b",
        "if a:\n if a:\n  if a:\n   if a:\n    if a:\n     if a:\n      if a:\n       if a:\n        if a:"
            + "\n         if a:b\n         else:(b)",
        "lambda:lambda:lambda:lambda:lambda:lambda:lambda:lambda:lambda:lambda:lambda:1",
        "lambda:lambda:lambda:lambda:lambda:lambda:lambda:lambda:lambda:lambda:1+lambda:1",
        "lambda:lambda:lambda:lambda:lambda:lambda:lambda:lambda:lambda:lambda:a()",
        "f(a)(b)(c)+g(a)(b)+(lambda x,y:x+y)(1,2)", "a b c", "x=y=1", "(a)=1", "f(x:=1)", "[x:=1]",
        "?".repeat(200), "a\n".repeat(100), "a\n a\n".repeat(40), "a+".repeat(99) + "ab",
        "a" + "()".repeat(99), "  a\n a\n".repeat(28), "f(" + "lambda:1,".repeat(21) + "lambda:1)",
        "if 1:1\n".repeat(28), "1".repeat(200), "(".repeat(200), "a\n(".repeat(66), "[" + "a".repeat(199),
        "[]", "()", "f(,)", "f(a,)", "def f(a,):pass", "if a:b\nelse:c\nelse:d", "for x in lambda:y:z",
        "if a: if b: c", "[a for b in c", "[a for b in c)", "[a]for", "global", "return return"};

    // ---- made-up texts

    private int pick(int bound) {
        seed = seed * 6364136223846793005L + 1442695040888963407L;
        return (int) Math.floorMod(seed >>> 33, (long) bound);
    }

    private String one(String... of) {
        return of[pick(of.length)];
    }

    private String someName() {
        return one(NAMES);
    }

    private String program() {
        StringBuilder text = new StringBuilder();
        int most = 20 + pick(180);
        for (int i = 0; i < 12 && text.length() < most; i++) {
            String more = statement("", 1 + pick(4));
            if (text.length() + more.length() <= 200) {
                text.append(more);
            }
        }
        return text.toString();
    }

    private String statement(String indent, int deep) {
        if (deep > 0 && pick(2) == 0) {
            return indent + compound(indent, deep - 1);
        }
        return indent + simple() + one("\n", "\n", " # x\n", "\n\n");
    }

    private String compound(String indent, int deep) {
        switch (pick(9)) {
            case 0:
                return "if " + expr(1) + body(indent, deep);
            case 1:
                return "if " + expr(1) + body(indent, deep) + indent + "else" + body(indent, deep);
            case 2:
                return "while " + expr(1) + body(indent, deep);
            case 3:
                return "for " + someName() + " in " + expr(1) + body(indent, deep);
            case 4:
            case 5:
                return "class " + someName() + body(indent, deep);
            default:
                return "def " + someName() + "(" + parameters() + ")" + body(indent, deep);
        }
    }

    private String body(String indent, int deep) {
        if (pick(4) == 0) {
            return ": " + simple() + "\n";
        }
        StringBuilder body = new StringBuilder(":\n");
        String more = indent + one(" ", "  ");
        for (int i = pick(3); i >= 0; i--) {
            body.append(statement(more, deep));
        }
        return body.toString();
    }

    private String simple() {
        switch (pick(11)) {
            case 0:
                return "pass";
            case 1:
                return "global " + someName() + (pick(3) == 0 ? ", " + someName() : "");
            case 2:
                return "nonlocal " + someName() + (pick(3) == 0 ? "," + someName() : "");
            case 3:
                return one("del ", "import ") + someName();
            case 4:
                return pick(4) == 0 ? "return" : "return " + expr(2);
            case 5:
            case 6:
            case 7:
                return someName() + one("=", " = ") + expr(2);
            default:
                return expr(3);
        }
    }

    private String parameters() {
        return one("", someName(), someName() + "," + someName());
    }

    private String expr(int deep) {
        if (deep > 0 && pick(6) == 0) {
            return "lambda " + parameters() + ":" + expr(deep - 1);
        }
        String sum = item(deep);
        while (pick(4) == 0) {
            sum += one("+", " + ") + item(deep);
        }
        return sum;
    }

    private String item(int deep) {
        String item;
        switch (deep > 0 ? pick(9) : 0) {
            case 0:
            case 1:
            case 2:
                item = someName();
                break;
            case 3:
                item = "1";
                break;
            case 4:
                item = "(" + expr(deep - 1) + ")";
                break;
            case 5:
                item = "(" + someName() + ":=" + expr(deep - 1) + ")";
                break;
            case 6:
                item = "[" + expr(deep - 1) + "]";
                break;
            default:
                item = "[" + expr(deep - 1) + " for " + someName() + " in " + expr(deep - 1) + "]";
                break;
        }
        while (pick(8) == 0) {
            item += pick(2) == 0 ? "()" : "(" + expr(0) + one("", "," + expr(0)) + ")";
        }
        return item;
    }

    private String mutated(String text) {
        StringBuilder changed = new StringBuilder(text);
        for (int i = pick(3); i >= 0; i--) {
            int at = pick(changed.length() + 1);
            int cut = Math.min(pick(3), changed.length() - at);
            changed.replace(at, at + cut, pick(3) == 0 ? "" : one(SOUP));
        }
        return changed.substring(0, Math.min(200, changed.length()));
    }

    /** About as many levels as are allowed, so that some texts are just too deep. */
    private String deep() {
        StringBuilder text = new StringBuilder();
        int bodies = pick(7);
        for (int i = 0; i < bodies; i++) {
            text.append(" ".repeat(i)).append(one("if a:\n", "def f():\n", "class A:\n"));
        }
        text.append(" ".repeat(bodies)).append(one("", "", "if a:", "x=", "else:"));
        StringBuilder closing = new StringBuilder();
        for (int i = 8 + pick(4) - bodies; i > 0; i--) {
            int opener = pick(6);
            text.append(new String[] {"(", "[", "a(", "lambda:", "(a:=", "[a for b in "}[opener]);
            closing.insert(0, new String[] {")", "]", ")", "", ")", "]"}[opener]);
        }
        text.append(one("a", "a()", "1", "+", "", "[b]")).append(closing);
        return text.substring(0, Math.min(200, text.length()));
    }

    private String soup() {
        StringBuilder text = new StringBuilder();
        for (int i = pick(40); i >= 0; i--) {
            text.append(one(SOUP));
        }
        return text.substring(0, Math.min(200, text.length()));
    }

    // ---- holding the answers

    private BindingServer server;
    private int calls;

    /** An object answers only so many calls. */
    private BindingServer server(String text) {
        if (server == null || calls >= CALLS) {
            server = Due.server(text);
            calls = (text.length() + 7) / 8;
        }
        calls++;
        return server;
    }

    private void hold(String text) {
        Model model = new Model(text);
        server = null;
        int code = model.accepted() ? model.error : model.faultCode;
        seen.merge(code, 1, Integer::sum);
        String shown = "[" + text.replace("\n", "\\n") + "] ";
        due.is(shown + "length()", server(text).length(), text.length());
        due.is(shown + "check()", server(text).check(), code);
        int place = model.accepted() ? model.errorPlace : model.faultPlace;
        due.is(shown + "place()", server(text).place(), place);
        due.is(shown + "tokens()", server(text).tokens(), model.tokens.size());
        for (int k = -1; k <= model.tokens.size(); k++) {
            due.is(shown + "token(" + k + ")", server(text).token(k), model.token(k));
        }
        holdStructure(text, model, shown);
        holdMeanings(text, model, shown);
        holdRenamings(text, model, shown);
    }

    private void holdStructure(String text, Model model, String shown) {
        int scopes = model.accepted() ? model.scopes.size() : -1;
        int names = model.accepted() ? model.occurrences.size() : -1;
        due.is(shown + "scopes()", server(text).scopes(), scopes);
        due.is(shown + "names()", server(text).names(), names);
        for (int k = -1; k <= Math.max(0, scopes); k++) {
            due.is(shown + "scope(" + k + ")", server(text).scope(k), model.scope(k));
        }
        for (int k = -1; k <= Math.max(0, names); k++) {
            due.is(shown + "name(" + k + ")", server(text).name(k), model.name(k));
        }
        for (int p = -1; p <= text.length(); p += model.accepted() ? 1 : 20) {
            int want;
            int smaller = -1;
            do {
                want = model.extent(p, smaller);
                due.is(shown + "extent(" + p + ", " + smaller + ")",
                    server(text).extent(p, smaller), want);
                smaller++;
            } while (want != -1 || smaller < 2);
        }
    }

    private void holdMeanings(String text, Model model, String shown) {
        for (int p = -1; p <= text.length(); p += model.fine() ? 1 : 20) {
            int want = model.resolve(p);
            due.is(shown + "resolve(" + p + ")", server(text).resolve(p), want);
            due.is(shown + "definition(" + p + ")", server(text).definition(p), model.definition(p));
            if (want != -1) {
                kinds[want & 7]++;
            }
            for (int k = -1; k < 1 || model.reference(p, k - 1) != -1; k++) {
                due.is(shown + "reference(" + p + ", " + k + ")",
                    server(text).reference(p, k), model.reference(p, k));
            }
        }
    }

    private void holdRenamings(String text, Model model, String shown) {
        String[] names = {"a", "b", "x", "new_name", "pass", "_1", "1a", "", "fresh"};
        for (int i = 0; i < 4 && text.length() > 0; i++) {
            int p = pick(text.length());
            if (model.fine() && model.occurrences.size() > 0) {
                p = model.name(pick(model.occurrences.size()));
            }
            String name = one(names);
            Object want = model.rename(p, name);
            String call = shown + "rename(" + p + ", " + name + ")";
            BindingServer renaming = Due.server(text);
            int got = renaming.rename(p, Due.eight(name));
            if (want instanceof Integer refusal) {
                due.is(call, got, refusal);
                due.isTrue(call + " changes nothing", Due.textOf(renaming).equals(text));
                due.is(call + " leaves check()", renaming.check(), server(text).check());
                refused += refusal == -4 ? 1 : 0;
            } else {
                due.is(call, got, model.countVariable(p));
                due.isTrue(call + " makes the text", Due.textOf(renaming).equals(want));
                due.is(call + " leaves check()", renaming.check(), 0);
                renamed++;
            }
        }
    }
}
