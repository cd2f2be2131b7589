/**
 * A server for texts in a small language whose blocks are told by indentation. A text is changed
 * piece by piece; its tokens, its structure, its scopes, what every name stands for and its first
 * error can be asked for at any time, and a variable can be renamed everywhere.
 */
public final class BindingServer {
    public static final int NONE = -1;
    public static final int FULL = -2;
    public static final int FIXED = -3;
    public static final int CONFLICT = -4;

    private final Text text;
    private final Tokens lexed;
    private final Extents extents;
    private final Scopes scopeTable;
    private final Occurrences occurrences;
    private final Parser parser;
    private final Binder binder;
    private final Snapshot before;
    private boolean stale;

    public BindingServer() {
        text = new Text();
        lexed = new Tokens(text);
        extents = new Extents();
        scopeTable = new Scopes();
        occurrences = new Occurrences();
        parser = new Parser(lexed, scopeTable, occurrences, extents);
        binder = new Binder(text, scopeTable, occurrences);
        before = new Snapshot();
        stale = true;
    }

    public int edit(int at, int cut, long eight) {
        if (at < 0 || at > text.size || cut < 0 || cut > text.size - at) {
            return NONE;
        }
        if (!Eight.areCharacters(eight)) {
            return NONE;
        }
        if (text.size - cut + Eight.size(eight) > Text.LONGEST) {
            return FULL;
        }
        text.replace(at, cut, eight);
        stale = true;
        return text.size;
    }

    public int length() {
        return text.size;
    }

    public int character(int p) {
        return text.at(p);
    }

    public int tokens() {
        refresh();
        return lexed.count;
    }

    public int token(int k) {
        refresh();
        if (k < 0 || k >= lexed.count) {
            return NONE;
        }
        return lexed.kindAt(k) + 16 * lexed.beginAt(k) + 4096 * lexed.endAt(k);
    }

    public int check() {
        refresh();
        return isAccepted() ? binder.errorCode : parser.faultCode;
    }

    public int place() {
        refresh();
        return isAccepted() ? binder.errorPlace : parser.faultPlace;
    }

    public int extent(int p, int smaller) {
        refresh();
        return isAccepted() ? extents.find(p, smaller) : NONE;
    }

    public int scopes() {
        refresh();
        return isAccepted() ? scopeTable.count : NONE;
    }

    public int scope(int k) {
        refresh();
        if (!isAccepted() || k < 0 || k >= scopeTable.count) {
            return NONE;
        }
        return scopeTable.sortOf(k) + 8 * scopeTable.parentOf(k);
    }

    public int names() {
        refresh();
        return isAccepted() ? occurrences.count : NONE;
    }

    public int name(int k) {
        refresh();
        if (!isAccepted() || k < 0 || k >= occurrences.count) {
            return NONE;
        }
        return occurrences.begin[k];
    }

    public int resolve(int p) {
        refresh();
        int i = settledAt(p);
        return i < 0 ? NONE : occurrences.answer(i);
    }

    public int definition(int p) {
        refresh();
        int i = settledAt(p);
        if (i < 0) {
            return NONE;
        }
        for (int j = 0; j < occurrences.count; j++) {
            if (occurrences.binds(j) && occurrences.sameVariable(i, j)) {
                return occurrences.begin[j];
            }
        }
        return NONE;
    }

    public int reference(int p, int k) {
        refresh();
        int i = settledAt(p);
        if (i < 0 || k < 0) {
            return NONE;
        }
        int passed = 0;
        for (int j = 0; j < occurrences.count; j++) {
            if (occurrences.sameVariable(i, j)) {
                if (passed == k) {
                    return occurrences.begin[j];
                }
                passed++;
            }
        }
        return NONE;
    }

    public int rename(int p, long name) {
        refresh();
        int i = settledAt(p);
        if (i < 0 || !Eight.isName(name)) {
            return NONE;
        }
        if (occurrences.kind[i] == Binder.MISSING) {
            return FIXED;
        }
        int replaced = occurrences.countVariable(i);
        int growth = Eight.size(name) - occurrences.widthOf(i);
        if (text.size + replaced * growth > Text.LONGEST) {
            return FULL;
        }
        before.keep(text, occurrences);
        respell(i, name);
        stale = true;
        refresh();
        if (!isFine() || !before.agrees(occurrences)) {
            before.putBack(text);
            stale = true;
            return CONFLICT;
        }
        return replaced;
    }

    /** From the last to the first, so that the places of those still to come stay right. */
    private void respell(int i, long name) {
        for (int j = occurrences.count - 1; j >= 0; j--) {
            if (occurrences.sameVariable(i, j)) {
                text.replace(occurrences.begin[j], occurrences.widthOf(j), name);
            }
        }
    }

    /** Several edits often come in a row: the text is read only when something is asked of it. */
    private void refresh() {
        if (!stale) {
            return;
        }
        stale = false;
        lexed.read();
        parser.read();
        if (isAccepted()) {
            binder.bind(parser.strayReturn);
        }
    }

    private boolean isAccepted() {
        return parser.faultCode == 0;
    }

    private boolean isFine() {
        return isAccepted() && binder.errorCode == 0;
    }

    /** Only in a fine text does an occurrence stand for anything. */
    private int settledAt(int p) {
        return isFine() ? occurrences.find(p) : NONE;
    }

    /** The characters that a long carries in its bytes, the zeros left out. */
    private static final class Eight {
        static final int BYTES = 8;

        static int byteAt(long eight, int k) {
            return (int) (eight >>> (56 - 8 * k)) & 255;
        }

        static int size(long eight) {
            int size = 0;
            for (int k = 0; k < BYTES; k++) {
                if (byteAt(eight, k) != 0) {
                    size++;
                }
            }
            return size;
        }

        static boolean areCharacters(long eight) {
            for (int k = 0; k < BYTES; k++) {
                int c = byteAt(eight, k);
                if (c != 0 && !Text.isCharacter(c)) {
                    return false;
                }
            }
            return true;
        }

        static boolean isName(long eight) {
            long packed = 0;
            for (int k = 0; k < BYTES; k++) {
                int c = byteAt(eight, k);
                if (c != 0) {
                    boolean fits = packed == 0 ? Text.isLetter(c) : Text.isLetterOrDigit(c);
                    if (!fits) {
                        return false;
                    }
                    packed = packed << 8 | c;
                }
            }
            return packed != 0 && Tokens.codeOfWord(packed) == Tokens.NAME;
        }
    }

    private static final class Text {
        static final int LONGEST = 200;
        static final int LINE_FEED = 10;
        static final int BLANK = 32;
        static final int LAST_CHARACTER = 126;

        final char[] characters;
        int size;

        Text() {
            characters = new char[LONGEST];
        }

        static boolean isCharacter(int c) {
            return c == LINE_FEED || c >= BLANK && c <= LAST_CHARACTER;
        }

        static boolean isDigit(int c) {
            return c >= '0' && c <= '9';
        }

        /** The language counts _ among what may begin a name. */
        static boolean isLetter(int c) {
            return c >= 'a' && c <= 'z' || c >= 'A' && c <= 'Z' || c == '_';
        }

        static boolean isLetterOrDigit(int c) {
            return isLetter(c) || isDigit(c);
        }

        int at(int p) {
            return p >= 0 && p < size ? characters[p] : NONE;
        }

        /** The caller has seen to it that at and cut lie in the text and that the result fits. */
        void replace(int at, int cut, long eight) {
            int put = Eight.size(eight);
            System.arraycopy(characters, at + cut, characters, at + put, size - at - cut);
            int p = at;
            for (int k = 0; k < Eight.BYTES; k++) {
                int c = Eight.byteAt(eight, k);
                if (c != 0 && p < LONGEST) {
                    characters[p] = (char) c;
                    p++;
                }
            }
            size = size - cut + put;
        }

        int endOfComment(int p) {
            int end = p;
            while (end < size && characters[end] != LINE_FEED) {
                end++;
            }
            return end;
        }

        int endOfDigits(int p) {
            int end = p;
            while (end < size && isDigit(characters[end])) {
                end++;
            }
            return end;
        }

        int endOfName(int p) {
            int end = p;
            while (end < size && isLetterOrDigit(characters[end])) {
                end++;
            }
            return end;
        }

        boolean sameCharacters(int p, int q, int width) {
            for (int k = 0; k < width; k++) {
                if (at(p + k) != at(q + k)) {
                    return false;
                }
            }
            return true;
        }

        /** No word is longer than eight characters, so what is longer need not be told apart. */
        long packed(int begin, int end) {
            long packed = 0;
            if (end - begin <= Eight.BYTES) {
                for (int p = begin; p < end; p++) {
                    packed = packed << 8 | at(p);
                }
            }
            return packed;
        }
    }

    /** The tokens of a text. A token's code tells the words and the signs apart, its kind does not. */
    private static final class Tokens {
        static final int NAME = 0;
        static final int NUMBER = 1;
        static final int WORD = 2;
        static final int SIGN = 3;
        static final int NEWLINE = 4;
        static final int INDENT = 5;
        static final int DEDENT = 6;
        static final int END = 7;
        static final int BAD = 8;

        static final int CLASS = 16;
        static final int DEF = 17;
        static final int DEL = 18;
        static final int ELSE = 19;
        static final int FOR = 20;
        static final int GLOBAL = 21;
        static final int IF = 22;
        static final int IMPORT = 23;
        static final int IN = 24;
        static final int LAMBDA = 25;
        static final int NONLOCAL = 26;
        static final int PASS = 27;
        static final int RETURN = 28;
        static final int WHILE = 29;

        // The code of a sign of one character is that character.
        static final int WALRUS = 128;

        // In the order of the codes: class def del else for global if import in lambda nonlocal
        // pass return while, each as the long that carries its characters.
        static final long[] WORDS = {
            0x636c617373L, 0x646566L, 0x64656cL, 0x656c7365L, 0x666f72L, 0x676c6f62616cL, 0x6966L,
            0x696d706f7274L, 0x696eL, 0x6c616d626461L, 0x6e6f6e6c6f63616cL, 0x70617373L,
            0x72657475726eL, 0x7768696c65L
        };

        // Every character makes at most one token (a blank an INDENT or BAD, an LF a NEWLINE);
        // beyond that come the last NEWLINE, END, and a DEDENT for each of at most 67 INDENTs.
        static final int MOST = 272;
        // Eighteen rising indentations with their lines are more than 200 characters.
        static final int MOST_INDENTS = 24;

        final Text text;
        final int[] code;
        final int[] begin;
        final int[] end;
        final int[] indents;
        int count;
        int indentCount;
        int open;

        Tokens(Text text) {
            this.text = text;
            code = new int[MOST];
            begin = new int[MOST];
            end = new int[MOST];
            indents = new int[MOST_INDENTS];
        }

        static int codeOfWord(long packed) {
            for (int w = 0; w < WORDS.length; w++) {
                if (WORDS[w] == packed) {
                    return CLASS + w;
                }
            }
            return NAME;
        }

        int codeAt(int k) {
            return k >= 0 && k < count ? code[k] : END;
        }

        int beginAt(int k) {
            return k >= 0 && k < count ? begin[k] : text.size;
        }

        int endAt(int k) {
            return k >= 0 && k < count ? end[k] : text.size;
        }

        int kindAt(int k) {
            int c = codeAt(k);
            if (c <= BAD) {
                return c;
            }
            return c <= WHILE ? WORD : SIGN;
        }

        void read() {
            count = 0;
            open = 0;
            indentCount = 1;
            int lineBegin = 0;
            boolean bare = true;
            int p = 0;
            while (p < text.size) {
                int c = text.at(p);
                int behind = p + 1;
                if (c == Text.LINE_FEED && open == 0) {
                    endLine(bare);
                    bare = true;
                    lineBegin = behind;
                } else if (c == '#') {
                    behind = text.endOfComment(p);
                } else if (c != Text.LINE_FEED && c != Text.BLANK) {
                    if (bare) {
                        beginLine(p - lineBegin, p);
                    }
                    bare = false;
                    behind = readOne(p);
                }
                p = Math.max(p + 1, behind);
            }
            endLine(bare);
            endText();
        }

        private void endLine(boolean bare) {
            if (!bare) {
                int behind = endAt(count - 1);
                add(NEWLINE, behind, behind);
            }
        }

        private void endText() {
            while (indentCount > 1) {
                indentCount--;
                add(DEDENT, text.size, text.size);
            }
            add(END, text.size, text.size);
        }

        private void beginLine(int indentation, int p) {
            if (indentation > lastIndent()) {
                if (indentCount < MOST_INDENTS) {
                    indents[indentCount] = indentation;
                    indentCount++;
                }
                add(INDENT, p, p);
                return;
            }
            while (indentCount > 1 && indents[indentCount - 1] > indentation) {
                indentCount--;
                add(DEDENT, p, p);
            }
            if (lastIndent() != indentation) {
                add(BAD, p, p);
            }
        }

        private int lastIndent() {
            return indentCount > 1 ? indents[indentCount - 1] : 0;
        }

        private int readOne(int p) {
            int c = text.at(p);
            int behind = p + 1;
            int found = BAD;
            if (Text.isLetter(c)) {
                behind = text.endOfName(p);
                found = codeOfWord(text.packed(p, behind));
            } else if (Text.isDigit(c)) {
                behind = text.endOfDigits(p);
                found = NUMBER;
            } else if (c == ':' && text.at(p + 1) == '=') {
                behind = p + 2;
                found = WALRUS;
            } else if (isSign(c)) {
                found = c;
                countOpen(c);
            }
            add(found, p, behind);
            return behind;
        }

        private static boolean isSign(int c) {
            switch (c) {
                case '(':
                case ')':
                case '[':
                case ']':
                case ',':
                case ':':
                case '=':
                case '+':
                    return true;
                default:
                    return false;
            }
        }

        private void countOpen(int c) {
            if (c == '(' || c == '[') {
                open++;
            } else if ((c == ')' || c == ']') && open > 0) {
                open--;
            }
        }

        private void add(int newCode, int newBegin, int newEnd) {
            if (count < MOST) {
                code[count] = newCode;
                begin[count] = newBegin;
                end[count] = newEnd;
                count++;
            }
        }

        /**
         * Whether the [ at token k begins a comprehension. A scope has its number from where it
         * begins, so this must be known before the scopes inside the brackets are met.
         */
        boolean beginsComprehension(int k) {
            int depth = 0;
            for (int i = k + 1; i < count; i++) {
                int c = code[i];
                if (c == '(' || c == '[') {
                    depth++;
                } else if (c == ')' || c == ']') {
                    depth--;
                }
                if (depth < 0) {
                    return false;
                }
                if (depth == 0 && c == FOR) {
                    return true;
                }
            }
            return false;
        }
    }

    /** The different extents of a text. */
    private static final class Extents {
        // Each has a character of its own: an item's part its last one, a longer sum its +, a
        // lambda and a compound statement their word, a simple statement its LF or the end.
        static final int MOST = 204;

        final int[] begin;
        final int[] end;
        int count;

        Extents() {
            begin = new int[MOST];
            end = new int[MOST];
        }

        void add(int newBegin, int newEnd) {
            for (int i = 0; i < count; i++) {
                if (begin[i] == newBegin && end[i] == newEnd) {
                    return;
                }
            }
            if (count < MOST) {
                begin[count] = newBegin;
                end[count] = newEnd;
                count++;
            }
        }

        /** Those that hold one place lie in one another, so their widths put them in order. */
        int find(int p, int smaller) {
            for (int i = 0; i < count; i++) {
                if (holds(i, p) && countSmaller(i, p) == smaller) {
                    return begin[i] + 256 * end[i];
                }
            }
            return NONE;
        }

        private int countSmaller(int i, int p) {
            int smaller = 0;
            for (int j = 0; j < count; j++) {
                if (holds(j, p) && end[j] - begin[j] < end[i] - begin[i]) {
                    smaller++;
                }
            }
            return smaller;
        }

        private boolean holds(int i, int p) {
            return begin[i] <= p && p < end[i];
        }
    }

    private static final class Scopes {
        static final int MODULE = 0;
        static final int DEF = 1;
        static final int CLASS = 2;
        static final int LAMBDA = 3;
        static final int COMPREHENSION = 4;

        // The shortest text of a scope is that of a lambda, seven characters.
        static final int MOST = 32;

        final int[] sort;
        final int[] parent;
        final int[] target;
        int count;

        Scopes() {
            sort = new int[MOST];
            parent = new int[MOST];
            target = new int[MOST];
        }

        void clear() {
            count = 0;
            open(MODULE, 0);
        }

        int open(int newSort, int newParent) {
            if (count >= MOST) {
                return newParent;
            }
            sort[count] = newSort;
            parent[count] = newParent;
            target[count] = NONE;
            count++;
            return count - 1;
        }

        int sortOf(int s) {
            return s >= 0 && s < count ? sort[s] : MODULE;
        }

        int parentOf(int s) {
            return s >= 0 && s < count ? parent[s] : 0;
        }

        /** The occurrence behind for in a comprehension. */
        int targetOf(int s) {
            return s >= 0 && s < count ? target[s] : NONE;
        }

        void setTarget(int s, int occurrence) {
            if (s >= 0 && s < count) {
                target[s] = occurrence;
            }
        }

        /** What := binds in a comprehension belongs outside of it. */
        int outsideComprehensions(int s) {
            int outer = s;
            for (int round = 0; round < count && outer >= 0 && outer < count; round++) {
                if (sort[outer] != COMPREHENSION) {
                    break;
                }
                outer = parent[outer];
            }
            return outer;
        }
    }

    /** The NAME tokens of an accepted text by place, and, once it is bound, what they stand for. */
    private static final class Occurrences {
        static final int READS = 1;
        static final int BINDS = 2;
        static final int DECLARES_GLOBAL = 4;
        static final int DECLARES_NONLOCAL = 8;
        static final int PARAMETER = 16;
        static final int WALRUS = 32;
        static final int IN_SOURCE = 64;

        // Between two of them stands another character.
        static final int MOST = 100;

        final int[] begin;
        final int[] end;
        final int[] lies;
        final int[] belongs;
        final int[] roles;
        final int[] spelling;
        final int[] kind;
        final int[] of;
        int count;

        Occurrences() {
            begin = new int[MOST];
            end = new int[MOST];
            lies = new int[MOST];
            belongs = new int[MOST];
            roles = new int[MOST];
            spelling = new int[MOST];
            kind = new int[MOST];
            of = new int[MOST];
        }

        void add(int newBegin, int newEnd, int newLies, int newBelongs, int newRoles) {
            if (count < MOST) {
                begin[count] = newBegin;
                end[count] = newEnd;
                lies[count] = newLies;
                belongs[count] = newBelongs;
                roles[count] = newRoles;
                count++;
            }
        }

        int find(int p) {
            for (int i = 0; i < count; i++) {
                if (begin[i] <= p && p < end[i]) {
                    return i;
                }
            }
            return NONE;
        }

        int widthOf(int i) {
            return end[i] - begin[i];
        }

        boolean has(int i, int role) {
            return (roles[i] & role) != 0;
        }

        boolean binds(int i) {
            return has(i, BINDS);
        }

        /** All that is done with a name in a scope by those before occurrence limit. */
        int rolesIn(int scope, int name, int limit) {
            int all = 0;
            for (int j = 0; j < limit && j < count; j++) {
                if (belongs[j] == scope && spelling[j] == name) {
                    all |= roles[j];
                }
            }
            return all;
        }

        boolean sameVariable(int i, int j) {
            return spelling[i] == spelling[j] && of[i] == of[j];
        }

        int firstOfVariable(int i) {
            for (int j = 0; j < i; j++) {
                if (sameVariable(i, j)) {
                    return j;
                }
            }
            return i;
        }

        int countVariable(int i) {
            int found = 0;
            for (int j = 0; j < count; j++) {
                if (sameVariable(i, j)) {
                    found++;
                }
            }
            return found;
        }

        int answer(int i) {
            return kind[i] + 8 * of[i] + 512 * belongs[i];
        }
    }

    /**
     * Reads the tokens by the grammar, from the left, and stops at the first that can't stand where
     * it stands. Its methods answer whether they got through; each looks at a token before it takes
     * it, so the one that stops it is the fault.
     */
    private static final class Parser {
        static final int DEEPEST = 10;
        static final int MISPLACED = 20;
        static final int TOO_DEEP = 21;

        final Tokens tokens;
        final Scopes scopes;
        final Occurrences occurrences;
        final Extents extents;
        int next;
        int seen;
        int here;
        int lastEnd;
        int scope;
        int sources;
        int faultCode;
        int faultPlace;
        int strayReturn;

        Parser(Tokens tokens, Scopes scopes, Occurrences occurrences, Extents extents) {
            this.tokens = tokens;
            this.scopes = scopes;
            this.occurrences = occurrences;
            this.extents = extents;
        }

        void read() {
            begin();
            boolean going = true;
            for (int round = 0; round < tokens.count && going && seen != Tokens.END; round++) {
                going = statement(0);
            }
        }

        private void begin() {
            scopes.clear();
            occurrences.count = 0;
            extents.count = 0;
            scope = 0;
            sources = 0;
            faultCode = 0;
            faultPlace = NONE;
            strayReturn = NONE;
            next = -1;
            seen = Tokens.NEWLINE;
            lastEnd = 0;
            advance();
        }

        private boolean statement(int nesting) {
            int begin = here;
            boolean done = beginsCompound()
                ? compound(nesting)
                : simple(nesting) && take(Tokens.NEWLINE);
            if (done) {
                extents.add(begin, lastEnd);
            }
            return done;
        }

        private boolean beginsCompound() {
            switch (seen) {
                case Tokens.DEF:
                case Tokens.CLASS:
                case Tokens.IF:
                case Tokens.WHILE:
                case Tokens.FOR:
                    return true;
                default:
                    return false;
            }
        }

        private boolean compound(int nesting) {
            switch (seen) {
                case Tokens.DEF:
                    return function(nesting);
                case Tokens.CLASS:
                    return classBlock(nesting);
                case Tokens.IF:
                    return condition(nesting);
                case Tokens.WHILE:
                    return take(Tokens.WHILE) && expression(nesting) && body(nesting);
                default:
                    return take(Tokens.FOR) && takeName(Occurrences.BINDS) && take(Tokens.IN)
                        && expression(nesting) && body(nesting);
            }
        }

        private boolean function(int nesting) {
            if (!take(Tokens.DEF) || !takeName(Occurrences.BINDS) || !take('(')) {
                return false;
            }
            int outer = scope;
            scope = scopes.open(Scopes.DEF, outer);
            boolean done = parameters() && take(')') && body(nesting);
            scope = outer;
            return done;
        }

        private boolean classBlock(int nesting) {
            if (!take(Tokens.CLASS) || !takeName(Occurrences.BINDS)) {
                return false;
            }
            int outer = scope;
            scope = scopes.open(Scopes.CLASS, outer);
            boolean done = body(nesting);
            scope = outer;
            return done;
        }

        private boolean condition(int nesting) {
            if (!take(Tokens.IF) || !expression(nesting) || !body(nesting)) {
                return false;
            }
            return seen != Tokens.ELSE || take(Tokens.ELSE) && body(nesting);
        }

        private boolean body(int nesting) {
            if (!takeDeeper(':', nesting)) {
                return false;
            }
            if (seen != Tokens.NEWLINE) {
                return simple(nesting + 1) && take(Tokens.NEWLINE);
            }
            return take(Tokens.NEWLINE) && take(Tokens.INDENT) && block(nesting + 1);
        }

        private boolean block(int nesting) {
            boolean done = statement(nesting);
            for (int round = 0; round < tokens.count && done && seen != Tokens.DEDENT; round++) {
                done = statement(nesting);
            }
            return done && take(Tokens.DEDENT);
        }

        private boolean simple(int nesting) {
            switch (seen) {
                case Tokens.PASS:
                    return take(Tokens.PASS);
                case Tokens.GLOBAL:
                    return take(Tokens.GLOBAL) && nameRow(Occurrences.DECLARES_GLOBAL);
                case Tokens.NONLOCAL:
                    return take(Tokens.NONLOCAL) && nameRow(Occurrences.DECLARES_NONLOCAL);
                case Tokens.DEL:
                    return take(Tokens.DEL) && takeName(Occurrences.BINDS);
                case Tokens.IMPORT:
                    return take(Tokens.IMPORT) && takeName(Occurrences.BINDS);
                case Tokens.RETURN:
                    noteReturn();
                    return take(Tokens.RETURN) && (seen == Tokens.NEWLINE || expression(nesting));
                default:
                    if (seesNameBefore('=')) {
                        return takeName(Occurrences.BINDS) && take('=') && expression(nesting);
                    }
                    return expression(nesting);
            }
        }

        private void noteReturn() {
            if (strayReturn == NONE && scopes.sortOf(scope) != Scopes.DEF) {
                strayReturn = here;
            }
        }

        private boolean parameters() {
            return seen != Tokens.NAME || nameRow(Occurrences.BINDS | Occurrences.PARAMETER);
        }

        private boolean nameRow(int roles) {
            boolean done = takeName(roles);
            for (int round = 0; round < tokens.count && done && seen == ','; round++) {
                done = take(',') && takeName(roles);
            }
            return done;
        }

        private boolean expression(int nesting) {
            if (seen == Tokens.LAMBDA) {
                return lambda(nesting);
            }
            int begin = here;
            boolean done = item(nesting);
            for (int round = 0; round < tokens.count && done && seen == '+'; round++) {
                done = take('+') && item(nesting);
                extents.add(begin, lastEnd);
            }
            return done;
        }

        private boolean lambda(int nesting) {
            int begin = here;
            if (!takeDeeper(Tokens.LAMBDA, nesting)) {
                return false;
            }
            int outer = scope;
            scope = scopes.open(Scopes.LAMBDA, outer);
            boolean done = parameters() && take(':') && expression(nesting + 1);
            scope = outer;
            extents.add(begin, lastEnd);
            return done;
        }

        private boolean item(int nesting) {
            int begin = here;
            boolean done = core(nesting);
            extents.add(begin, lastEnd);
            for (int round = 0; round < tokens.count && done && seen == '('; round++) {
                done = call(nesting);
                extents.add(begin, lastEnd);
            }
            return done;
        }

        /** An item without the calls behind it. */
        private boolean core(int nesting) {
            switch (seen) {
                case Tokens.NAME:
                    return takeName(Occurrences.READS);
                case Tokens.NUMBER:
                    return take(Tokens.NUMBER);
                case '(':
                    return group(nesting);
                case '[':
                    return tokens.beginsComprehension(next)
                        ? comprehension(nesting)
                        : takeDeeper('[', nesting) && expression(nesting + 1) && take(']');
                default:
                    return refuse(MISPLACED);
            }
        }

        private boolean call(int nesting) {
            if (!takeDeeper('(', nesting)) {
                return false;
            }
            if (seen == ')') {
                return take(')');
            }
            boolean done = expression(nesting + 1);
            for (int round = 0; round < tokens.count && done && seen == ','; round++) {
                done = take(',') && expression(nesting + 1);
            }
            return done && take(')');
        }

        private boolean group(int nesting) {
            if (!takeDeeper('(', nesting)) {
                return false;
            }
            if (seesNameBefore(Tokens.WALRUS)) {
                takeWalrus();
            }
            return expression(nesting + 1) && take(')');
        }

        private boolean comprehension(int nesting) {
            int outer = scope;
            int inner = scopes.open(Scopes.COMPREHENSION, outer);
            scope = inner;
            boolean done = takeDeeper('[', nesting) && expression(nesting + 1)
                && take(Tokens.FOR) && takeName(Occurrences.BINDS);
            scope = outer;
            if (!done) {
                return false;
            }
            scopes.setTarget(inner, occurrences.count - 1);
            sources++;
            done = take(Tokens.IN) && expression(nesting + 1);
            sources--;
            return done && take(']');
        }

        private boolean seesNameBefore(int code) {
            return seen == Tokens.NAME && tokens.codeAt(next + 1) == code;
        }

        private boolean take(int code) {
            if (seen != code) {
                return refuse(MISPLACED);
            }
            advance();
            return true;
        }

        /** Takes a token that opens another level of nesting. */
        private boolean takeDeeper(int code, int nesting) {
            if (seen != code) {
                return refuse(MISPLACED);
            }
            if (nesting >= DEEPEST) {
                return refuse(TOO_DEEP);
            }
            advance();
            return true;
        }

        private boolean takeName(int roles) {
            if (seen != Tokens.NAME) {
                return refuse(MISPLACED);
            }
            int begin = here;
            advance();
            occurrences.add(begin, lastEnd, scope, scope, roles);
            return true;
        }

        /** The caller has seen that a NAME and := come. */
        private void takeWalrus() {
            int begin = here;
            advance();
            int roles = Occurrences.BINDS | Occurrences.WALRUS;
            if (sources > 0) {
                roles |= Occurrences.IN_SOURCE;
            }
            int owner = scopes.outsideComprehensions(scope);
            occurrences.add(begin, lastEnd, scope, owner, roles);
            advance();
        }

        /** Tokens that no one wrote do not move the end of what has been read. */
        private void advance() {
            boolean written = seen < Tokens.NEWLINE || seen > Tokens.BAD;
            if (written && next >= 0 && next < tokens.count) {
                lastEnd = tokens.end[next];
            }
            next++;
            if (next < tokens.count) {
                seen = tokens.code[next];
                here = tokens.begin[next];
            }
        }

        private boolean refuse(int code) {
            faultCode = code;
            faultPlace = here;
            return false;
        }
    }

    /** Finds the first error of an accepted text, or, when there is none, what its names stand for. */
    private static final class Binder {
        static final int LOCAL = 1;
        static final int CELL = 2;
        static final int FREE = 3;
        static final int GLOBAL = 4;
        static final int KNOWN = 5;
        static final int MISSING = 6;

        static final int PARAMETER_TWICE = 1;
        static final int DECLARED_PARAMETER = 2;
        static final int DECLARED_LATE = 3;
        static final int NONLOCAL_IN_MODULE = 4;
        static final int DECLARED_BOTH_WAYS = 5;
        static final int NONLOCAL_UNFOUND = 6;
        static final int STRAY_RETURN = 7;
        static final int WALRUS_IN_CLASS = 8;
        static final int WALRUS_ON_TARGET = 9;
        static final int WALRUS_IN_SOURCE = 10;

        final Text text;
        final Scopes scopes;
        final Occurrences occurrences;
        int errorCode;
        int errorPlace;

        Binder(Text text, Scopes scopes, Occurrences occurrences) {
            this.text = text;
            this.scopes = scopes;
            this.occurrences = occurrences;
        }

        void bind(int strayReturn) {
            tellSpellings();
            findError(strayReturn);
            if (errorCode == 0) {
                for (int i = 0; i < occurrences.count; i++) {
                    settle(i);
                }
                markCells();
            }
        }

        /** A spelling is told by the first occurrence that has it. */
        private void tellSpellings() {
            for (int i = 0; i < occurrences.count; i++) {
                occurrences.spelling[i] = i;
                for (int j = 0; j < i; j++) {
                    if (sameSpelling(i, j)) {
                        occurrences.spelling[i] = j;
                        break;
                    }
                }
            }
        }

        private boolean sameSpelling(int i, int j) {
            int width = occurrences.widthOf(i);
            return width == occurrences.widthOf(j)
                && text.sameCharacters(occurrences.begin[i], occurrences.begin[j], width);
        }

        private void findError(int strayReturn) {
            errorCode = strayReturn == NONE ? 0 : STRAY_RETURN;
            errorPlace = strayReturn;
            for (int i = 0; i < occurrences.count; i++) {
                if (strayReturn != NONE && occurrences.begin[i] > strayReturn) {
                    return;
                }
                int found = errorOf(i);
                if (found != 0) {
                    errorCode = found;
                    errorPlace = occurrences.begin[i];
                    return;
                }
            }
        }

        private int errorOf(int i) {
            if (occurrences.has(i, Occurrences.PARAMETER)) {
                boolean twice = (earlierRoles(i) & Occurrences.PARAMETER) != 0;
                return twice ? PARAMETER_TWICE : 0;
            }
            if (occurrences.has(i, Occurrences.DECLARES_GLOBAL | Occurrences.DECLARES_NONLOCAL)) {
                return errorOfDeclared(i);
            }
            return occurrences.has(i, Occurrences.WALRUS) ? errorOfWalrus(i) : 0;
        }

        private int earlierRoles(int i) {
            return occurrences.rolesIn(occurrences.belongs[i], occurrences.spelling[i], i);
        }

        private int errorOfDeclared(int i) {
            int earlier = earlierRoles(i);
            boolean nonlocal = occurrences.has(i, Occurrences.DECLARES_NONLOCAL);
            int otherWay = nonlocal ? Occurrences.DECLARES_GLOBAL : Occurrences.DECLARES_NONLOCAL;
            int scope = occurrences.belongs[i];
            if ((earlier & Occurrences.PARAMETER) != 0) {
                return DECLARED_PARAMETER;
            }
            if ((earlier & (Occurrences.READS | Occurrences.BINDS)) != 0) {
                return DECLARED_LATE;
            }
            if (nonlocal && scope == 0) {
                return NONLOCAL_IN_MODULE;
            }
            if ((earlier & otherWay) != 0) {
                return DECLARED_BOTH_WAYS;
            }
            boolean unfound = nonlocal && search(scope, occurrences.spelling[i]) == NONE;
            return unfound ? NONLOCAL_UNFOUND : 0;
        }

        private int errorOfWalrus(int i) {
            boolean inside = scopes.sortOf(occurrences.lies[i]) == Scopes.COMPREHENSION;
            if (inside && scopes.sortOf(occurrences.belongs[i]) == Scopes.CLASS) {
                return WALRUS_IN_CLASS;
            }
            if (bindsTarget(i)) {
                return WALRUS_ON_TARGET;
            }
            return occurrences.has(i, Occurrences.IN_SOURCE) ? WALRUS_IN_SOURCE : 0;
        }

        private boolean bindsTarget(int i) {
            int s = occurrences.lies[i];
            for (int round = 0; round < scopes.count; round++) {
                if (scopes.sortOf(s) != Scopes.COMPREHENSION) {
                    return false;
                }
                int target = scopes.targetOf(s);
                if (target >= 0 && occurrences.spelling[target] == occurrences.spelling[i]) {
                    return true;
                }
                s = scopes.parentOf(s);
            }
            return false;
        }

        private int search(int from, int name) {
            int s = scopes.parentOf(from);
            for (int round = 0; round < scopes.count && s != 0; round++) {
                int roles = occurrences.rolesIn(s, name, occurrences.count);
                if (scopes.sortOf(s) != Scopes.CLASS) {
                    if ((roles & Occurrences.DECLARES_GLOBAL) != 0) {
                        return NONE;
                    }
                    if (bindsUndeclared(roles)) {
                        return s;
                    }
                }
                s = scopes.parentOf(s);
            }
            return NONE;
        }

        private static boolean bindsUndeclared(int roles) {
            return (roles & Occurrences.BINDS) != 0
                && (roles & (Occurrences.DECLARES_GLOBAL | Occurrences.DECLARES_NONLOCAL)) == 0;
        }

        private void settle(int i) {
            int scope = occurrences.belongs[i];
            int name = occurrences.spelling[i];
            int roles = occurrences.rolesIn(scope, name, occurrences.count);
            if ((roles & Occurrences.DECLARES_GLOBAL) != 0) {
                stand(i, GLOBAL, 0);
            } else if (scope != 0 && bindsUndeclared(roles)) {
                stand(i, LOCAL, scope);
            } else {
                int found = search(scope, name);
                if (found != NONE) {
                    stand(i, FREE, found);
                } else {
                    stand(i, isKnown(name) ? KNOWN : MISSING, 0);
                }
            }
        }

        private void stand(int i, int kind, int of) {
            occurrences.kind[i] = kind;
            occurrences.of[i] = of;
        }

        private boolean isKnown(int name) {
            for (int j = 0; j < occurrences.count; j++) {
                if (occurrences.binds(j) && occurrences.spelling[j] == name && isOfModule(j)) {
                    return true;
                }
            }
            return false;
        }

        private boolean isOfModule(int j) {
            int scope = occurrences.belongs[j];
            int roles = occurrences.rolesIn(scope, occurrences.spelling[j], occurrences.count);
            return scope == 0 || (roles & Occurrences.DECLARES_GLOBAL) != 0;
        }

        private void markCells() {
            for (int i = 0; i < occurrences.count; i++) {
                if (occurrences.kind[i] == LOCAL && isUsedInside(i)) {
                    occurrences.kind[i] = CELL;
                }
            }
        }

        private boolean isUsedInside(int i) {
            for (int j = 0; j < occurrences.count; j++) {
                if (occurrences.kind[j] == FREE && occurrences.sameVariable(i, j)) {
                    return true;
                }
            }
            return false;
        }
    }

    /** A text and what its names stood for, to hold a renamed text against and to go back to. */
    private static final class Snapshot {
        final char[] characters;
        final int[] answers;
        final int[] firsts;
        int size;
        int count;

        Snapshot() {
            characters = new char[Text.LONGEST];
            answers = new int[Occurrences.MOST];
            firsts = new int[Occurrences.MOST];
        }

        void keep(Text text, Occurrences occurrences) {
            System.arraycopy(text.characters, 0, characters, 0, text.size);
            size = text.size;
            count = occurrences.count;
            for (int i = 0; i < count; i++) {
                answers[i] = occurrences.answer(i);
                firsts[i] = occurrences.firstOfVariable(i);
            }
        }

        void putBack(Text text) {
            System.arraycopy(characters, 0, text.characters, 0, size);
            text.size = size;
        }

        /** Two are of one variable just when its first occurrence is the same for both. */
        boolean agrees(Occurrences occurrences) {
            if (occurrences.count != count) {
                return false;
            }
            for (int i = 0; i < count; i++) {
                if (occurrences.answer(i) != answers[i]
                    || occurrences.firstOfVariable(i) != firsts[i]) {
                    return false;
                }
            }
            return true;
        }
    }
}
