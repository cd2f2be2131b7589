import java.util.ArrayDeque;
import java.util.ArrayList;
import java.util.Collections;
import java.util.Deque;
import java.util.HashMap;
import java.util.HashSet;
import java.util.List;
import java.util.Map;
import java.util.Set;
import java.util.TreeMap;
import java.util.TreeSet;
import java.util.regex.Matcher;
import java.util.regex.Pattern;

/**
 * The document once more, written another way than the program: the grammar is a table whose
 * alternatives are all followed at once, and every term is its definition over whole sets. Slow,
 * and meant to be held against the program's answers.
 */
final class Model {
    static final int NONE = -1;
    private static final Set<String> WORDS = Set.of("class", "def", "del", "else", "for", "global",
        "if", "import", "in", "lambda", "nonlocal", "pass", "return", "while");
    private static final Pattern PIECE = Pattern.compile(
        "(?<name>[A-Za-z_][A-Za-z0-9_]*)|(?<number>[0-9]+)|(?<sign>:=|[()\\[\\],:=+])"
            + "|(?<gap> |#[^\n]*)|(?<lf>\n)|(?<bad>.)");

    record Token(int kind, String symbol, int begin, int end) { }

    record Scope(int sort, int parent, String[] target) { }

    static final class Occurrence {
        int begin;
        int end;
        String name;
        String role;
        int lies;
        int belongs;
        boolean inSource;
        int kind;
        int of;

        boolean binds() {
            return !role.equals("read") && !declares();
        }

        boolean declares() {
            return role.equals("global") || role.equals("nonlocal");
        }
    }

    final String text;
    final List<Token> tokens = new ArrayList<>();
    int faultCode;
    int faultPlace = NONE;
    final Set<List<Integer>> extents = new HashSet<>();
    final List<Scope> scopes = new ArrayList<>();
    final List<Occurrence> occurrences = new ArrayList<>();
    final List<Integer> strayReturns = new ArrayList<>();
    int error;
    int errorPlace = NONE;

    Model(String text) {
        this.text = text;
        lex();
        Log log = recognise();
        if (faultCode == 0) {
            interpret(log);
            findError();
            if (error == 0) {
                standForAll();
            }
        }
    }

    boolean accepted() {
        return faultCode == 0;
    }

    boolean fine() {
        return accepted() && error == 0;
    }

    // ---- tokens

    private void lex() {
        List<List<Token>> lines = new ArrayList<>();
        List<Integer> begins = new ArrayList<>();
        List<Token> line = new ArrayList<>();
        int lineBegin = 0;
        int open = 0;
        Matcher m = PIECE.matcher(text);
        while (m.find()) {
            String piece = m.group();
            if (m.group("lf") != null) {
                if (open == 0) {
                    lines.add(line);
                    begins.add(lineBegin);
                    line = new ArrayList<>();
                    lineBegin = m.end();
                }
            } else if (m.group("gap") == null) {
                line.add(written(m, piece));
                if (piece.equals("(") || piece.equals("[")) {
                    open++;
                }
                if (piece.equals(")") || piece.equals("]")) {
                    open = Math.max(0, open - 1);
                }
            }
        }
        lines.add(line);
        begins.add(lineBegin);
        layOut(lines, begins);
    }

    private static Token written(Matcher m, String piece) {
        int kind = m.group("name") != null ? (WORDS.contains(piece) ? 2 : 0)
            : m.group("number") != null ? 1
            : m.group("sign") != null ? 3 : 8;
        String symbol = kind == 0 ? "NAME" : kind == 1 ? "NUMBER" : kind == 8 ? "BAD" : piece;
        return new Token(kind, symbol, m.start(), m.end());
    }

    private void layOut(List<List<Token>> lines, List<Integer> begins) {
        List<Integer> row = new ArrayList<>(List.of(0));
        for (int i = 0; i < lines.size(); i++) {
            List<Token> line = lines.get(i);
            if (line.isEmpty()) {
                continue;
            }
            int first = line.get(0).begin();
            int indentation = first - begins.get(i);
            if (indentation > row.get(row.size() - 1)) {
                row.add(indentation);
                tokens.add(new Token(5, "INDENT", first, first));
            } else {
                while (row.get(row.size() - 1) > indentation) {
                    row.remove(row.size() - 1);
                    tokens.add(new Token(6, "DEDENT", first, first));
                }
                if (row.get(row.size() - 1) != indentation) {
                    tokens.add(new Token(8, "BAD", first, first));
                }
            }
            tokens.addAll(line);
            int last = line.get(line.size() - 1).end();
            tokens.add(new Token(4, "NEWLINE", last, last));
        }
        int end = text.length();
        for (int i = 1; i < row.size(); i++) {
            tokens.add(new Token(6, "DEDENT", end, end));
        }
        tokens.add(new Token(7, "END", end, end));
    }

    // ---- grammar: ^x is a token that nests and % the end of that, <x and >x are marks, @x a role

    private static final Map<String, String[][]> GRAMMAR = new HashMap<>();

    private static void rule(String left, String... alternatives) {
        String[][] rows = new String[alternatives.length][];
        for (int i = 0; i < rows.length; i++) {
            rows[i] = alternatives[i].isEmpty() ? new String[0] : alternatives[i].split(" ");
        }
        GRAMMAR.put(left, rows);
    }

    static {
        rule("File", "Statements END");
        rule("Statements", "", "Statement Statements");
        rule("Statement", "<s Simple NEWLINE >s", "<s Compound >s");
        rule("Simple", "pass", "global @global NAME Globals", "nonlocal @nonlocal NAME Nonlocals",
            "del @bind NAME", "import @bind NAME", "<return return", "<return return Expr",
            "@bind NAME = Expr", "Expr");
        rule("Globals", "", ", @global NAME Globals");
        rule("Nonlocals", "", ", @nonlocal NAME Nonlocals");
        rule("Compound", "def @bind NAME <S1 ( Parameters ) Body >S", "class @bind NAME <S2 Body >S",
            "if Expr Body", "if Expr Body else Body", "while Expr Body",
            "for @bind NAME in Expr Body");
        rule("Parameters", "", "@param NAME MoreParameters");
        rule("MoreParameters", "", ", @param NAME MoreParameters");
        rule("Body", "^: Simple NEWLINE %", "^: NEWLINE INDENT Statement Statements DEDENT %");
        rule("Expr", "<e ^lambda <S3 Parameters : Expr >S % >e", "<e <x Item >p Sum >x >e");
        rule("Sum", "", "+ Item >p Sum");
        rule("Item", "<i Core >q Calls >i");
        rule("Core", "@read NAME", "NUMBER", "^( Expr ) %", "^( @walrus NAME := Expr ) %",
            "^[ Expr ] %", "<S4 ^[ Expr for @target NAME >S in <source Expr >source ] %");
        rule("Calls", "", "^( ) % >q Calls", "^( Expr Arguments ) % >q Calls");
        rule("Arguments", "", ", Expr Arguments");
    }

    private record Stack(String top, Stack rest) { }

    private record Log(String mark, int token, Log before) { }

    private record State(Stack stack, Log log, int nesting) { }

    private Log recognise() {
        List<State> states = List.of(new State(new Stack("File", null), null, 0));
        for (int k = 0; k < tokens.size(); k++) {
            List<State> ready = new ArrayList<>();
            for (State state : states) {
                unfold(state, ready);
            }
            List<State> after = new ArrayList<>();
            boolean tooDeep = false;
            for (State state : ready) {
                String want = state.stack().top();
                boolean nests = want.startsWith("^");
                if (tokens.get(k).symbol().equals(nests ? want.substring(1) : want)) {
                    int nesting = state.nesting() + (nests ? 1 : 0);
                    if (nesting > 10) {
                        tooDeep = true;
                    } else {
                        after.add(new State(state.stack().rest(),
                            new Log("", k, state.log()), nesting));
                    }
                }
            }
            if (after.isEmpty()) {
                faultCode = tooDeep ? 21 : 20;
                faultPlace = tokens.get(k).begin();
                return null;
            }
            states = after;
        }
        if (states.size() != 1) {
            throw new IllegalStateException("the grammar is ambiguous for " + text);
        }
        return states.get(0).log();
    }

    private static void unfold(State state, List<State> ready) {
        Stack stack = state.stack();
        if (stack == null) {
            return;
        }
        String top = stack.top();
        if (GRAMMAR.containsKey(top)) {
            for (String[] row : GRAMMAR.get(top)) {
                Stack longer = stack.rest();
                for (int i = row.length - 1; i >= 0; i--) {
                    longer = new Stack(row[i], longer);
                }
                unfold(new State(longer, state.log(), state.nesting()), ready);
            }
        } else if (top.equals("%")) {
            unfold(new State(stack.rest(), state.log(), state.nesting() - 1), ready);
        } else if (top.startsWith("<") || top.startsWith(">") || top.startsWith("@")) {
            Log log = new Log(top, NONE, state.log());
            unfold(new State(stack.rest(), log, state.nesting()), ready);
        } else {
            ready.add(state);
        }
    }

    // ---- extents, scopes, occurrences from the marks

    private void interpret(Log log) {
        List<Log> row = new ArrayList<>();
        for (Log l = log; l != null; l = l.before()) {
            row.add(l);
        }
        Collections.reverse(row);
        scopes.add(new Scope(0, 0, new String[1]));
        Deque<Integer> begins = new ArrayDeque<>();
        Deque<Integer> around = new ArrayDeque<>(List.of(0));
        int next = 0;
        int lastEnd = 0;
        int sources = 0;
        String role = "";
        for (Log l : row) {
            String mark = l.mark();
            if (mark.isEmpty()) {
                Token token = tokens.get(l.token());
                next = l.token() + 1;
                if (token.kind() < 4) {
                    lastEnd = token.end();
                }
                if (token.kind() == 0) {
                    addOccurrence(token, role, around.peek(), sources > 0);
                }
            } else if (mark.startsWith("@")) {
                role = mark.substring(1);
            } else if (mark.startsWith("<S")) {
                scopes.add(new Scope(mark.charAt(2) - '0', around.peek(), new String[1]));
                around.push(scopes.size() - 1);
            } else if (mark.equals(">S")) {
                around.pop();
            } else if (mark.endsWith("source")) {
                sources += mark.startsWith("<") ? 1 : -1;
            } else if (mark.equals("<return")) {
                if (scopes.get(around.peek()).sort() != 1) {
                    strayReturns.add(tokens.get(next).begin());
                }
            } else if (mark.startsWith("<")) {
                begins.push(tokens.get(next).begin());
            } else {
                extents.add(List.of(begins.peek(), lastEnd));
                if (!mark.equals(">p") && !mark.equals(">q")) {
                    begins.pop();
                }
            }
        }
    }

    private void addOccurrence(Token token, String role, int lies, boolean inSource) {
        Occurrence o = new Occurrence();
        o.begin = token.begin();
        o.end = token.end();
        o.name = text.substring(token.begin(), token.end());
        o.role = role;
        o.lies = lies;
        o.inSource = inSource;
        o.belongs = lies;
        while (role.equals("walrus") && scopes.get(o.belongs).sort() == 4) {
            o.belongs = scopes.get(o.belongs).parent();
        }
        if (role.equals("target")) {
            scopes.get(lies).target()[0] = o.name;
        }
        occurrences.add(o);
    }

    // ---- errors and what occurrences stand for

    private boolean some(int scope, String name, String role) {
        return occurrences.stream().anyMatch(
            o -> o.belongs == scope && o.name.equals(name) && o.role.equals(role));
    }

    private boolean someBinds(int scope, String name) {
        return occurrences.stream().anyMatch(
            o -> o.belongs == scope && o.name.equals(name) && o.binds());
    }

    private int search(int scope, String name) {
        List<Integer> chain = new ArrayList<>();
        for (int s = scope; s != 0;) {
            s = scopes.get(s).parent();
            chain.add(s);
        }
        for (int s : chain) {
            if (s == 0 || some(s, name, "global") && scopes.get(s).sort() != 2) {
                return NONE;
            }
            if (scopes.get(s).sort() != 2 && someBinds(s, name) && !some(s, name, "nonlocal")) {
                return s;
            }
        }
        return NONE;
    }

    private void findError() {
        TreeMap<Integer, TreeSet<Integer>> found = new TreeMap<>();
        for (int place : strayReturns) {
            found.computeIfAbsent(place, k -> new TreeSet<>()).add(7);
        }
        for (Occurrence o : occurrences) {
            for (int code = 1; code <= 10; code++) {
                if (hasError(o, code)) {
                    found.computeIfAbsent(o.begin, k -> new TreeSet<>()).add(code);
                }
            }
        }
        if (!found.isEmpty()) {
            errorPlace = found.firstKey();
            error = found.get(errorPlace).first();
        }
    }

    private boolean hasError(Occurrence o, int code) {
        boolean walrus = o.role.equals("walrus");
        boolean nonlocal = o.role.equals("nonlocal");
        List<Occurrence> earlier = occurrences.stream().filter(e -> e.begin < o.begin
            && e.belongs == o.belongs && e.name.equals(o.name)).toList();
        switch (code) {
            case 1:
                return o.role.equals("param")
                    && earlier.stream().anyMatch(e -> e.role.equals("param"));
            case 2:
                return o.declares() && some(o.belongs, o.name, "param");
            case 3:
                return o.declares() && earlier.stream().anyMatch(e -> !e.declares());
            case 4:
                return nonlocal && o.belongs == 0;
            case 5:
                return o.declares()
                    && earlier.stream().anyMatch(e -> e.declares() && !e.role.equals(o.role));
            case 6:
                return nonlocal && o.belongs != 0 && search(o.belongs, o.name) == NONE;
            case 8:
                return walrus && scopes.get(o.lies).sort() == 4
                    && scopes.get(o.belongs).sort() == 2;
            case 9:
                return walrus && targetsAround(o.lies).contains(o.name);
            case 10:
                return walrus && o.inSource;
            default:
                return false;
        }
    }

    private Set<String> targetsAround(int scope) {
        Set<String> targets = new HashSet<>();
        if (scopes.get(scope).sort() == 4) {
            targets.add(scopes.get(scope).target()[0]);
            targets.addAll(targetsAround(scopes.get(scope).parent()));
        }
        return targets;
    }

    private void standForAll() {
        for (Occurrence o : occurrences) {
            int s = o.belongs;
            if (some(s, o.name, "global")) {
                o.kind = 4;
            } else if (some(s, o.name, "nonlocal")) {
                o.kind = 3;
                o.of = search(s, o.name);
            } else if (s != 0 && someBinds(s, o.name)) {
                o.kind = 1;
                o.of = s;
            } else if (s != 0 && search(s, o.name) != NONE) {
                o.kind = 3;
                o.of = search(s, o.name);
            } else {
                boolean known = occurrences.stream().anyMatch(b -> b.binds()
                    && b.name.equals(o.name)
                    && (b.belongs == 0 || some(b.belongs, b.name, "global")));
                o.kind = known ? 5 : 6;
            }
        }
        for (Occurrence o : occurrences) {
            if (o.kind == 1 && occurrences.stream().anyMatch(f -> f.kind == 3
                && f.belongs != o.belongs && f.of == o.belongs && f.name.equals(o.name))) {
                o.kind = 2;
            }
        }
    }

    // ---- the answers of the face

    int token(int k) {
        if (k < 0 || k >= tokens.size()) {
            return NONE;
        }
        Token t = tokens.get(k);
        return t.kind() + 16 * t.begin() + 4096 * t.end();
    }

    int extent(int p, int smaller) {
        List<List<Integer>> holding = new ArrayList<>(extents.stream()
            .filter(e -> accepted() && e.get(0) <= p && p < e.get(1)).toList());
        holding.sort((a, b) -> (a.get(1) - a.get(0)) - (b.get(1) - b.get(0)));
        for (int i = 1; i < holding.size(); i++) {
            if (holding.get(i).get(0) > holding.get(i - 1).get(0)
                || holding.get(i).get(1) < holding.get(i - 1).get(1)) {
                throw new IllegalStateException("extents that cross in " + text);
            }
        }
        if (smaller < 0 || smaller >= holding.size()) {
            return NONE;
        }
        return holding.get(smaller).get(0) + 256 * holding.get(smaller).get(1);
    }

    int scope(int k) {
        if (!accepted() || k < 0 || k >= scopes.size()) {
            return NONE;
        }
        return scopes.get(k).sort() + 8 * scopes.get(k).parent();
    }

    int name(int k) {
        return !accepted() || k < 0 || k >= occurrences.size() ? NONE : occurrences.get(k).begin;
    }

    private Occurrence at(int p) {
        return occurrences.stream().filter(o -> fine() && o.begin <= p && p < o.end).findFirst()
            .orElse(null);
    }

    private List<Occurrence> variable(Occurrence of) {
        return occurrences.stream().filter(o -> o.name.equals(of.name) && o.of == of.of).toList();
    }

    private static int answer(Occurrence o) {
        return o.kind + 8 * o.of + 512 * o.belongs;
    }

    int resolve(int p) {
        Occurrence o = at(p);
        return o == null ? NONE : answer(o);
    }

    int definition(int p) {
        Occurrence o = at(p);
        return o == null ? NONE : variable(o).stream().filter(Occurrence::binds)
            .map(b -> b.begin).findFirst().orElse(NONE);
    }

    int reference(int p, int k) {
        Occurrence o = at(p);
        return o == null || k < 0 || k >= variable(o).size() ? NONE : variable(o).get(k).begin;
    }

    /** The text after a renaming, or a refusal as a number. */
    Object rename(int p, String name) {
        Occurrence o = at(p);
        if (o == null || !name.matches("[A-Za-z_][A-Za-z0-9_]*") || WORDS.contains(name)) {
            return NONE;
        }
        if (o.kind == 6) {
            return -3;
        }
        StringBuilder renamed = new StringBuilder();
        int from = 0;
        for (Occurrence v : variable(o)) {
            renamed.append(text, from, v.begin).append(name);
            from = v.end;
        }
        renamed.append(text.substring(from));
        if (renamed.length() > 200) {
            return -2;
        }
        Model after = new Model(renamed.toString());
        return after.fine() && sameMeaning(after) ? renamed.toString() : (Object) (-4);
    }

    int countVariable(int p) {
        return variable(at(p)).size();
    }

    private boolean sameMeaning(Model after) {
        int n = occurrences.size();
        if (after.occurrences.size() != n) {
            return false;
        }
        for (int i = 0; i < n; i++) {
            Occurrence a = occurrences.get(i);
            Occurrence b = after.occurrences.get(i);
            if (answer(a) != answer(b)) {
                return false;
            }
            for (int j = 0; j < n; j++) {
                boolean were = variable(a).contains(occurrences.get(j));
                boolean are = after.variable(b).contains(after.occurrences.get(j));
                if (were != are) {
                    return false;
                }
            }
        }
        return true;
    }
}
