/**
 * A small shell: scripts of pipelines over a few variables, positions and files, all held in the object.
 *
 * A run works on a copy of the state and keeps it only at its end, so that a run that throws changes nothing.
 */
public final class TinyShell {
    private static final int SCRIPT_MOST = 240;
    private static final int OUTPUT_MOST = 240;
    private static final int VARIABLES_MOST = 8;
    private static final int NAME_MOST = 6;
    private static final int VALUE_MOST = 40;
    private static final int POSITIONS_MOST = 9;
    private static final int FILES_MOST = 8;
    private static final int FILE_NAME_MOST = 8;
    private static final int FILE_MOST = 80;
    private static final int FIELDS_MOST = 16;
    private static final int COMMANDS_MOST = 6;
    private static final int STATUS_MOST = 255;

    private static final char BLANK = ' ';
    private static final char LF = '\n';

    private final Text script;
    private final Syntax syntax;
    private final State kept;
    private final Runner runner;

    public TinyShell() {
        script = new Text(SCRIPT_MOST);
        syntax = new Syntax(script);
        kept = new State();
        runner = new Runner(script, syntax);
    }

    public boolean type(long eight) {
        int more = 0;
        for (int shift = 56; shift >= 0; shift -= 8) {
            int c = (int) (eight >>> shift) & 255;
            if (c != 0 && c != LF && (c < 32 || c > 126)) {
                return false;
            }
            more += c == 0 ? 0 : 1;
        }
        if (script.size() + more > SCRIPT_MOST) {
            return false;
        }
        for (int shift = 56; shift >= 0; shift -= 8) {
            int c = (int) (eight >>> shift) & 255;
            if (c != 0) {
                script.add((char) c);
            }
        }
        return true;
    }

    public void wipe() {
        script.clear();
    }

    public int run() throws IllegalArgumentException, UnsupportedOperationException {
        syntax.read();
        runner.begin(kept);
        for (int c = 0; c < syntax.commands.size(); c++) {
            if (runner.isDue(c)) {
                runner.startCommand(c);
                runner.endCommand(c, runner.runCommand(c));
            }
        }
        kept.become(runner.state);
        return kept.status;
    }

    public int place() {
        return syntax.badPlace;
    }

    public char output(int k) {
        return kept.output.at(k);
    }

    public int count(int what) {
        switch (what) {
            case 0:
                return kept.variables.size();
            case 1:
                return kept.positions.size();
            case 2:
                return kept.files.size();
            case 3:
                return kept.status;
            case 4:
                return kept.output.size();
            default:
                return -1;
        }
    }

    public char value(int i, int k) {
        return kept.variables.textAt(i).at(k);
    }

    public char position(int i, int k) {
        return kept.positions.at(i - 1).at(k);
    }

    public char content(int i, int k) {
        return kept.files.textAt(i).at(k);
    }

    public char name(boolean files, int i, int k) {
        Table table = files ? kept.files : kept.variables;
        return table.nameAt(i).at(k);
    }

    /** A text with a limit; what would go beyond the limit is TOO MUCH. */
    private static final class Text {
        private final char[] chars;
        private int size;

        Text(int most) {
            chars = new char[Math.max(most, 0)];
            size = 0;
        }

        int size() {
            return size;
        }

        /** The character at k; 0, which no text holds, when there is none. */
        char at(int k) {
            return k >= 0 && k < size && k < chars.length ? chars[k] : 0;
        }

        void clear() {
            size = 0;
        }

        void add(char c) {
            if (size < 0 || size >= chars.length) {
                throw new UnsupportedOperationException("too much");
            }
            chars[size] = c;
            size++;
        }

        /** Appends what stands in the source from one place up to another. */
        void addRange(Text source, int from, int end) {
            for (int k = Math.max(from, 0); k < end && k < source.size; k++) {
                if (size < 0 || size >= chars.length) {
                    throw new UnsupportedOperationException("too much");
                }
                chars[size] = source.chars[k];
                size++;
            }
        }

        void become(Text source) {
            if (source.size > chars.length) {
                throw new UnsupportedOperationException("too much");
            }
            for (int k = 0; k < source.size; k++) {
                chars[k] = source.chars[k];
            }
            size = source.size;
        }

        /** Appends a number of 0 to 999 in digits. */
        void addNumber(int number) {
            for (int unit = 100; unit > 0; unit /= 10) {
                if (unit > 1 && number < unit) {
                    continue;
                }
                if (size < 0 || size >= chars.length) {
                    throw new UnsupportedOperationException("too much");
                }
                chars[size] = (char) ('0' + number / unit % 10);
                size++;
            }
        }

        /** The number that stands here in 1 to digitsMost digits; -1 when none does. */
        int asNumber(int digitsMost) {
            if (size == 0 || size > digitsMost) {
                return -1;
            }
            int number = 0;
            for (int k = 0; k < size; k++) {
                int digit = at(k) - '0';
                if (digit < 0 || digit > 9) {
                    return -1;
                }
                number = number * 10 + digit;
            }
            return number;
        }

        /** Below 0, 0 or above 0, as this text stands before, is, or stands behind the other one. */
        int order(Text other) {
            for (int k = 0; k < size && k < other.size; k++) {
                int difference = chars[k] - other.chars[k];
                if (difference != 0) {
                    return difference;
                }
            }
            return size - other.size;
        }

        boolean is(String word) {
            if (word.length() != size) {
                return false;
            }
            for (int k = 0; k < size && k < word.length(); k++) {
                if (at(k) != word.charAt(k)) {
                    return false;
                }
            }
            return true;
        }

        /** The first place of c at or behind from; the size when there is none. */
        int find(char c, int from) {
            for (int k = from; k < size; k++) {
                if (at(k) == c) {
                    return k;
                }
            }
            return size;
        }
    }

    /** A row of texts with a limit; behind the last one stands a spare text, to be filled and then taken in. */
    private static final class Row {
        private final Text[] texts;
        private final Text none;
        private int size;

        Row(int most, int textMost) {
            texts = new Text[Math.max(most, 0) + 1];
            for (int i = 0; i < texts.length; i++) {
                texts[i] = new Text(textMost);
            }
            none = new Text(0);
            size = 0;
        }

        int size() {
            return size;
        }

        Text at(int i) {
            return i >= 0 && i < size && i < texts.length ? texts[i] : none;
        }

        Text spare() {
            return size >= 0 && size < texts.length ? texts[size] : none;
        }

        void clear() {
            size = 0;
            spare().clear();
        }

        /** Takes the spare text in as the last one; an empty one only if evenEmpty is said. */
        void takeSpare(boolean evenEmpty) {
            if (spare().size() == 0 && !evenEmpty) {
                return;
            }
            if (size < 0 || size + 1 >= texts.length) {
                throw new UnsupportedOperationException("too much");
            }
            size++;
            texts[size].clear();
        }

        void add(Text text) {
            spare().become(text);
            takeSpare(true);
        }

        void become(Row source) {
            clear();
            for (int i = 0; i < source.size; i++) {
                add(source.at(i));
            }
        }
    }

    /** Texts with names, kept by rising names. */
    private static final class Table {
        private final Text[] names;
        private final Text[] texts;
        private final Text none;
        private int size;

        Table(int most, int nameMost, int textMost) {
            names = new Text[Math.max(most, 0)];
            texts = new Text[Math.max(most, 0)];
            for (int i = 0; i < names.length && i < texts.length; i++) {
                names[i] = new Text(nameMost);
                texts[i] = new Text(textMost);
            }
            none = new Text(0);
            size = 0;
        }

        int size() {
            return size;
        }

        Text nameAt(int i) {
            return i >= 0 && i < size && i < names.length ? names[i] : none;
        }

        Text textAt(int i) {
            return i >= 0 && i < size && i < texts.length ? texts[i] : none;
        }

        /** Where the name stands; -1 when it is not there. */
        int find(Text name) {
            for (int i = 0; i < size && i < names.length; i++) {
                if (names[i].order(name) == 0) {
                    return i;
                }
            }
            return -1;
        }

        /** Puts the name in, with an empty text, unless it is there. */
        void open(Text name) {
            if (find(name) >= 0) {
                return;
            }
            if (size < 0 || size >= names.length || size >= texts.length) {
                throw new UnsupportedOperationException("too much");
            }
            Text newName = names[size];
            Text newText = texts[size];
            newName.become(name);
            newText.clear();
            int slot = size;
            for (; slot > 0 && names[slot - 1].order(name) > 0; slot--) {
                names[slot] = names[slot - 1];
                texts[slot] = texts[slot - 1];
            }
            names[slot] = newName;
            texts[slot] = newText;
            size++;
        }

        /** Takes entry i out; its texts go behind the last one, to be used again. */
        void drop(int i) {
            if (i < 0 || i >= size || size > names.length || size > texts.length) {
                return;
            }
            Text oldName = names[i];
            Text oldText = texts[i];
            for (int k = i + 1; k < size; k++) {
                names[k - 1] = names[k];
                texts[k - 1] = texts[k];
            }
            names[size - 1] = oldName;
            texts[size - 1] = oldText;
            size--;
        }

        void become(Table source) {
            size = 0;
            for (int i = 0; i < source.size && i < names.length && i < texts.length; i++) {
                names[i].become(source.nameAt(i));
                texts[i].become(source.textAt(i));
                size++;
            }
        }
    }

    /** Rows of numbers that say what stands where in the script: a kind and two ranges each. */
    private static final class Sheet {
        static final int KIND = 0;
        static final int FROM = 1;
        static final int END = 2;
        static final int MORE_FROM = 3;
        static final int MORE_END = 4;
        private static final int COLUMNS = 5;

        private final int[] cells;
        private int size;

        Sheet(int most) {
            cells = new int[Math.max(most, 0) * COLUMNS];
            size = 0;
        }

        int size() {
            return size;
        }

        void clear() {
            size = 0;
        }

        int at(int row, int column) {
            boolean there = row >= 0 && row < size && column >= 0 && column < COLUMNS;
            return there ? cells[row * COLUMNS + column] : 0;
        }

        void set(int row, int column, int number) {
            if (row >= 0 && row < size && column >= 0 && column < COLUMNS) {
                cells[row * COLUMNS + column] = number;
            }
        }

        /** Every row stands for a character or more of a text that has no more of them than the sheet has rows. */
        void add(int kind, int from, int end, int moreFrom, int moreEnd) {
            int first = size * COLUMNS;
            if (first < 0 || first + COLUMNS > cells.length) {
                return;
            }
            cells[first + KIND] = kind;
            cells[first + FROM] = from;
            cells[first + END] = end;
            cells[first + MORE_FROM] = moreFrom;
            cells[first + MORE_END] = moreEnd;
            size++;
        }

        void swap(int row, int other) {
            for (int column = 0; column < COLUMNS; column++) {
                int number = at(row, column);
                set(row, column, at(other, column));
                set(other, column, number);
            }
        }
    }

    /** All that stays from one run to the next. */
    private static final class State {
        final Table variables;
        final Row positions;
        final Table files;
        final Text output;
        int status;

        State() {
            variables = new Table(VARIABLES_MOST, NAME_MOST, VALUE_MOST);
            positions = new Row(POSITIONS_MOST, VALUE_MOST);
            files = new Table(FILES_MOST, FILE_NAME_MOST, FILE_MOST);
            output = new Text(OUTPUT_MOST);
            status = 0;
        }

        void become(State source) {
            variables.become(source.variables);
            positions.become(source.positions);
            files.become(source.files);
            output.become(source.output);
            status = source.status;
        }
    }

    /**
     * Reads the script into three sheets: commands (a kind of join before them, and their items), items (their
     * pieces, and an assignment's name), and pieces (their characters or a parameter's name, and its TEXT).
     */
    private static final class Syntax {
        // What joins a command to the one before. SEQUENCE is 0, as is what a sheet answers behind its last row.
        static final int SEQUENCE = 0;
        static final int AND = 1;
        static final int OR = 2;
        static final int PIPE = 3;

        static final int WORD = 0;
        static final int ASSIGNMENT = 1;
        static final int READ = 2;
        static final int WRITE = 3;
        static final int APPEND = 4;

        static final int PLAIN = 0;
        static final int QUOTED = 1;
        // As QUOTED, and tells that quotes stand there even if nothing is between them.
        static final int QUOTES = 2;
        static final int PARAMETER = 3;
        static final int QUOTED_PARAMETER = 4;

        // What may come next: a command or the end; a command; any token; the word of a redirection.
        private static final int BEGIN = 0;
        private static final int COMMAND = 1;
        private static final int ANY = 2;
        private static final int TARGET = 3;

        final Sheet commands;
        final Sheet items;
        final Sheet pieces;
        int badPlace;
        private final Text script;
        private int at;
        private int awaited;
        private int join;
        private int redirection;
        private boolean wordSeen;

        Syntax(Text script) {
            this.script = script;
            commands = new Sheet(SCRIPT_MOST);
            items = new Sheet(SCRIPT_MOST);
            pieces = new Sheet(SCRIPT_MOST);
            badPlace = 0;
        }

        void read() {
            commands.clear();
            items.clear();
            pieces.clear();
            at = 0;
            awaited = BEGIN;
            join = SEQUENCE;
            // Every token takes a character or more.
            for (int token = 0; token < SCRIPT_MOST && findToken(); token++) {
                readToken();
            }
            if (awaited == COMMAND || awaited == TARGET) {
                refuse(script.size());
            }
        }

        private void refuse(int place) {
            badPlace = place;
            throw new IllegalArgumentException("malformed");
        }

        /** Goes over blanks and comments; false at the script's end. */
        private boolean findToken() {
            boolean comment = false;
            for (; at < script.size(); at++) {
                char c = script.at(at);
                comment = c == '#' || comment && c != LF;
                if (!comment && c != BLANK) {
                    return true;
                }
            }
            return false;
        }

        private void readToken() {
            char c = script.at(at);
            boolean twice = c == script.at(at + 1);
            switch (c) {
                case LF:
                    endLine();
                    break;
                case ';':
                    joinBy(SEQUENCE, 1);
                    break;
                case '|':
                    joinBy(twice ? OR : PIPE, twice ? 2 : 1);
                    break;
                case '&':
                    if (!twice) {
                        refuse(at);
                    }
                    joinBy(AND, 2);
                    break;
                case '<':
                    redirect(READ, 1);
                    break;
                case '>':
                    redirect(twice ? APPEND : WRITE, twice ? 2 : 1);
                    break;
                case '(':
                case ')':
                    refuse(at);
                    break;
                default:
                    readWord();
                    break;
            }
        }

        private void endLine() {
            if (awaited == BEGIN || awaited == COMMAND) {
                at++;
            } else {
                joinBy(SEQUENCE, 1);
            }
        }

        private void joinBy(int kind, int width) {
            if (awaited != ANY) {
                refuse(at);
            }
            join = kind;
            at += width;
            awaited = kind == SEQUENCE ? BEGIN : COMMAND;
        }

        private void redirect(int kind, int width) {
            if (awaited == TARGET) {
                refuse(at);
            }
            openCommand();
            redirection = kind;
            at += width;
            awaited = TARGET;
        }

        private void openCommand() {
            if (awaited == BEGIN || awaited == COMMAND) {
                commands.add(join, items.size(), items.size(), 0, 0);
                wordSeen = false;
            }
        }

        private void readWord() {
            openCommand();
            int nameFrom = at;
            int nameEnd = nameEnd(at);
            int kind = WORD;
            if (awaited == TARGET) {
                kind = redirection;
            } else if (!wordSeen && nameEnd > nameFrom && script.at(nameEnd) == '=') {
                kind = ASSIGNMENT;
                at = nameEnd + 1;
            } else {
                wordSeen = true;
            }
            int first = pieces.size();
            readPieces();
            items.add(kind, first, pieces.size(), nameFrom, nameEnd);
            commands.set(commands.size() - 1, Sheet.END, items.size());
            awaited = ANY;
        }

        /** The end of the longest NAME that begins at from; from when none does. */
        private int nameEnd(int from) {
            int end = from;
            for (; end < script.size(); end++) {
                char c = script.at(end);
                boolean digit = c >= '0' && c <= '9' && end > from;
                if (!beginsName(c) && !digit) {
                    break;
                }
            }
            return end;
        }

        private static boolean beginsName(char c) {
            return c >= 'a' && c <= 'z' || c >= 'A' && c <= 'Z' || c == '_';
        }

        private void readPieces() {
            boolean inQuotes = false;
            // Every step takes a character or more.
            for (int step = 0; step < SCRIPT_MOST && at < script.size(); step++) {
                char c = script.at(at);
                if (c == '"') {
                    inQuotes = !inQuotes;
                    addCharacters(QUOTES, at + 1, at + 1);
                } else if (c == '\\') {
                    readEscape(inQuotes);
                } else if (c == '$' && script.at(at + 1) == '{') {
                    readBraces(inQuotes);
                } else if (c == '$') {
                    readDollar(inQuotes);
                } else if (inQuotes) {
                    addCharacters(QUOTED, at, at + 1);
                } else if (c == '\'') {
                    readSingleQuotes();
                } else if (endsWord(c)) {
                    return;
                } else {
                    addCharacters(PLAIN, at, at + 1);
                }
            }
            if (inQuotes) {
                refuse(script.size());
            }
        }

        private static boolean endsWord(char c) {
            return c == BLANK || c == LF || c == '|' || c == '&' || c == ';' || c == '<' || c == '>' || c == '('
                || c == ')';
        }

        private void addCharacters(int kind, int from, int end) {
            pieces.add(kind, from, end, 0, 0);
            at = end;
        }

        private void readSingleQuotes() {
            int end = script.find('\'', at + 1);
            if (end >= script.size()) {
                refuse(script.size());
            }
            addCharacters(QUOTES, at + 1, end);
            at = end + 1;
        }

        private void readEscape(boolean inQuotes) {
            char next = script.at(at + 1);
            if (next == 0 || next == LF) {
                refuse(at + 1);
            }
            boolean stays = inQuotes && next != '$' && next != '"' && next != '\\';
            addCharacters(QUOTED, stays ? at : at + 1, at + 2);
        }

        private void readDollar(boolean inQuotes) {
            int from = at + 1;
            char next = script.at(from);
            int kind = inQuotes ? QUOTED_PARAMETER : PARAMETER;
            if (beginsName(next)) {
                addCharacters(kind, from, nameEnd(from));
            } else if (next >= '1' && next <= '9' || next == '#' || next == '?') {
                addCharacters(kind, from, from + 1);
            } else {
                addCharacters(inQuotes ? QUOTED : PLAIN, at, at + 1);
            }
        }

        private void readBraces(boolean inQuotes) {
            int from = at + 2;
            int end = nameEnd(from);
            if (end == from) {
                refuse(from);
            }
            int textFrom = end;
            int textEnd = end;
            if (script.at(end) == ':') {
                if (script.at(end + 1) != '-') {
                    refuse(end + 1);
                }
                textFrom = end + 2;
                textEnd = textEnd(textFrom);
            }
            if (script.at(textEnd) != '}') {
                refuse(textEnd);
            }
            pieces.add(inQuotes ? QUOTED_PARAMETER : PARAMETER, from, end, textFrom, textEnd);
            at = textEnd + 1;
        }

        private int textEnd(int from) {
            int end = from;
            for (; end < script.size(); end++) {
                char c = script.at(end);
                if (c == '}' || c == LF || c == '\'' || c == '"' || c == '\\' || c == '$') {
                    break;
                }
            }
            return end;
        }
    }

    /** Expands items of the script that Syntax has read. */
    private static final class Expander {
        // Marks a QUOTED character of a field under way; the characters of scripts are all below it.
        private static final int QUOTED_BIT = 128;

        private final Text script;
        private final Syntax syntax;
        private final State state;
        private final Row marked;
        private final Text number;
        private final Text nameText;
        private final Text plain;
        private boolean quotes;

        Expander(Text script, Syntax syntax, State state) {
            this.script = script;
            this.syntax = syntax;
            this.state = state;
            marked = new Row(FIELDS_MOST, VALUE_MOST);
            number = new Text(VALUE_MOST);
            nameText = new Text(SCRIPT_MOST);
            plain = new Text(VALUE_MOST);
        }

        /** Makes the fields of a command's words. */
        void expandWords(int command, Row fields) {
            marked.clear();
            int end = syntax.commands.at(command, Sheet.END);
            for (int item = syntax.commands.at(command, Sheet.FROM); item < end; item++) {
                if (syntax.items.at(item, Sheet.KIND) == Syntax.WORD) {
                    expandPieces(item, true);
                    marked.takeSpare(quotes);
                }
            }
            fields.clear();
            for (int i = 0; i < marked.size(); i++) {
                addField(marked.at(i), fields);
            }
        }

        /** The characters of an assignment's value or a redirection's word. */
        Text expandWhole(int item) {
            marked.clear();
            expandPieces(item, false);
            return unmark(marked.spare());
        }

        Text nameOf(int item) {
            nameText.clear();
            nameText.addRange(script, syntax.items.at(item, Sheet.MORE_FROM), syntax.items.at(item, Sheet.MORE_END));
            return nameText;
        }

        private void expandPieces(int item, boolean parting) {
            quotes = false;
            Sheet pieces = syntax.pieces;
            int end = syntax.items.at(item, Sheet.END);
            for (int p = syntax.items.at(item, Sheet.FROM); p < end; p++) {
                int kind = pieces.at(p, Sheet.KIND);
                int from = pieces.at(p, Sheet.FROM);
                int pieceEnd = pieces.at(p, Sheet.END);
                boolean quoted = kind != Syntax.PLAIN && kind != Syntax.PARAMETER;
                quotes = quotes || kind == Syntax.QUOTES;
                if (kind != Syntax.PARAMETER && kind != Syntax.QUOTED_PARAMETER) {
                    addCharacters(script, from, pieceEnd, quoted, parting);
                    continue;
                }
                Text given = parameter(from, pieceEnd);
                boolean empty = given.size() == 0;
                from = empty ? pieces.at(p, Sheet.MORE_FROM) : 0;
                pieceEnd = empty ? pieces.at(p, Sheet.MORE_END) : given.size();
                addCharacters(empty ? script : given, from, pieceEnd, quoted, parting);
            }
        }

        private void addCharacters(Text source, int from, int end, boolean quoted, boolean parting) {
            for (int k = from; k < end; k++) {
                char c = source.at(k);
                // Words as written hold no unquoted blank or LF outside TEXTs, so parameters have given this one.
                if (parting && !quoted && (c == BLANK || c == LF)) {
                    marked.takeSpare(quotes);
                    quotes = false;
                } else {
                    marked.spare().add((char) (quoted ? c | QUOTED_BIT : c));
                }
            }
        }

        private Text parameter(int from, int end) {
            char c = script.at(from);
            if (c >= '1' && c <= '9') {
                return state.positions.at(c - '1');
            }
            number.clear();
            if (c == '#') {
                number.addNumber(state.positions.size());
                return number;
            }
            if (c == '?') {
                number.addNumber(state.status);
                return number;
            }
            nameText.clear();
            nameText.addRange(script, from, end);
            return state.variables.textAt(state.variables.find(nameText));
        }

        private void addField(Text field, Row fields) {
            boolean found = false;
            if (isPattern(field)) {
                for (int i = 0; i < state.files.size(); i++) {
                    if (matches(field, state.files.nameAt(i))) {
                        fields.add(state.files.nameAt(i));
                        found = true;
                    }
                }
            }
            if (!found) {
                fields.add(unmark(field));
            }
        }

        private Text unmark(Text source) {
            plain.clear();
            for (int k = 0; k < source.size(); k++) {
                plain.add((char) (source.at(k) & ~QUOTED_BIT));
            }
            return plain;
        }

        private static boolean isPattern(Text field) {
            return field.find('*', 0) < field.size() || field.find('?', 0) < field.size();
        }

        /** Bit n of reached says that the pattern so far may be the first n characters of the file's name. */
        private static boolean matches(Text pattern, Text fileName) {
            int reached = 1;
            for (int p = 0; p < pattern.size(); p++) {
                char c = pattern.at(p);
                if (c == '*') {
                    reached = -(reached & -reached);
                    continue;
                }
                int next = 0;
                for (int n = 0; n < fileName.size(); n++) {
                    if ((reached >> n & 1) == 1 && (c == '?' || (c & ~QUOTED_BIT) == fileName.at(n))) {
                        next |= 2 << n;
                    }
                }
                reached = next;
            }
            return (reached >> fileName.size() & 1) == 1;
        }
    }

    /** Runs the commands that Syntax has read on a state of its own. */
    private static final class Runner {
        final State state;
        private final Syntax syntax;
        private final Expander expander;
        private final Tools tools;
        private final Table savedVariables;
        private final Row savedPositions;
        private final Text inputName;
        private final Text outputName;
        private boolean due;
        private boolean ended;
        private int inPipeline;

        Runner(Text script, Syntax syntax) {
            this.syntax = syntax;
            state = new State();
            expander = new Expander(script, syntax, state);
            tools = new Tools(state);
            savedVariables = new Table(VARIABLES_MOST, NAME_MOST, VALUE_MOST);
            savedPositions = new Row(POSITIONS_MOST, VALUE_MOST);
            inputName = new Text(FILE_NAME_MOST);
            outputName = new Text(FILE_NAME_MOST);
        }

        void begin(State before) {
            state.become(before);
            state.output.clear();
            ended = false;
        }

        /** False when the script has ended or the command's pipeline is left out. */
        boolean isDue(int command) {
            int join = syntax.commands.at(command, Sheet.KIND);
            if (join != Syntax.PIPE) {
                due = join == Syntax.SEQUENCE || (join == Syntax.AND) == (state.status == 0);
                inPipeline = 0;
            }
            return due && !ended;
        }

        void startCommand(int command) {
            inPipeline++;
            if (inPipeline > COMMANDS_MOST) {
                throw new UnsupportedOperationException("too much");
            }
            tools.begin(inPipeline > 1);
            if (!isAlone(command)) {
                savedVariables.become(state.variables);
                savedPositions.become(state.positions);
            }
        }

        /** A command's status; what it has put out is in tools.out, unless that went to a file. */
        int runCommand(int command) {
            expander.expandWords(command, tools.fields);
            if (!redirect(command)) {
                return 1;
            }
            assign(command);
            if (tools.fields.size() == 0) {
                return 0;
            }
            if (inputName.size() > 0) {
                tools.input.become(state.files.textAt(state.files.find(inputName)));
            }
            int status = tools.call();
            if (outputName.size() > 0) {
                sendToFile();
            }
            return status;
        }

        void endCommand(int command, int status) {
            ended = tools.exiting && isAlone(command);
            if (!isAlone(command)) {
                state.variables.become(savedVariables);
                state.positions.become(savedPositions);
            }
            if (!isPiped(command + 1)) {
                // Not before the last one, as all commands of a pipeline see the status of the pipeline ahead.
                state.status = status;
                state.output.addRange(tools.out, 0, tools.out.size());
            }
        }

        private boolean isPiped(int command) {
            return syntax.commands.at(command, Sheet.KIND) == Syntax.PIPE;
        }

        private boolean isAlone(int command) {
            return !isPiped(command) && !isPiped(command + 1);
        }

        /** Opens a command's files; false at the first that can't be. */
        private boolean redirect(int command) {
            inputName.clear();
            outputName.clear();
            int end = syntax.commands.at(command, Sheet.END);
            for (int item = syntax.commands.at(command, Sheet.FROM); item < end; item++) {
                int kind = syntax.items.at(item, Sheet.KIND);
                if (kind == Syntax.WORD || kind == Syntax.ASSIGNMENT) {
                    continue;
                }
                Text target = kind == Syntax.READ ? inputName : outputName;
                target.become(expander.expandWhole(item));
                if (target.size() == 0 || kind == Syntax.READ && state.files.find(target) < 0) {
                    return false;
                }
                if (kind != Syntax.READ) {
                    state.files.open(target);
                }
                if (kind == Syntax.WRITE) {
                    state.files.textAt(state.files.find(target)).clear();
                }
            }
            return true;
        }

        /** Assignments before a utility are expanded only because they may be TOO MUCH. */
        private void assign(int command) {
            int end = syntax.commands.at(command, Sheet.END);
            for (int item = syntax.commands.at(command, Sheet.FROM); item < end; item++) {
                if (syntax.items.at(item, Sheet.KIND) != Syntax.ASSIGNMENT) {
                    continue;
                }
                Text assigned = expander.expandWhole(item);
                if (tools.fields.size() == 0) {
                    Text variable = expander.nameOf(item);
                    state.variables.open(variable);
                    state.variables.textAt(state.variables.find(variable)).become(assigned);
                }
            }
        }

        private void sendToFile() {
            int file = state.files.find(outputName);
            // rm may have taken the file away; it puts nothing out.
            if (file >= 0) {
                state.files.textAt(file).addRange(tools.out, 0, tools.out.size());
            }
            tools.out.clear();
        }
    }

    /** The utilities' names, and how many arguments each may have. */
    private enum Utility {
        ECHO("echo", 0, FIELDS_MOST),
        CAT("cat", 0, FIELDS_MOST),
        TRUE("true", 0, 0),
        FALSE("false", 0, 0),
        SET("set", 0, FIELDS_MOST),
        UNSET("unset", 0, FIELDS_MOST),
        RM("rm", 0, FIELDS_MOST),
        WC("wc", 0, 0),
        HEAD("head", 1, 1),
        REV("rev", 0, 0),
        SORT("sort", 0, 0),
        UNIQ("uniq", 0, 0),
        GREP("grep", 1, 1),
        TR("tr", 2, 2),
        TEST("test", 1, 3),
        EXIT("exit", 0, 1),
        UNKNOWN("", 0, FIELDS_MOST);

        private static final Utility[] ALL = values();

        private final String word;
        private final int fewest;
        private final int most;

        Utility(String word, int fewest, int most) {
            this.word = word;
            this.fewest = fewest;
            this.most = most;
        }

        static Utility called(Text word) {
            for (int i = 0; i < ALL.length; i++) {
                if (word.is(ALL[i].word)) {
                    return ALL[i];
                }
            }
            return UNKNOWN;
        }

        boolean takes(int arguments) {
            return arguments >= fewest && arguments <= most;
        }
    }

    /** Runs one utility: its fields and input come in, what it puts out and its status go out. */
    private static final class Tools {
        private static final int WRONG_ARGUMENTS = 2;
        private static final int NO_SUCH_UTILITY = 127;

        final Row fields;
        final Text input;
        final Text out;
        boolean exiting;
        private final State state;
        private final Lines lines;

        Tools(State state) {
            this.state = state;
            fields = new Row(FIELDS_MOST, VALUE_MOST);
            input = new Text(OUTPUT_MOST);
            out = new Text(OUTPUT_MOST);
            lines = new Lines(input, out);
            exiting = false;
        }

        /** Makes ready for a command, which reads what the one before has put out if it is piped. */
        void begin(boolean piped) {
            input.clear();
            if (piped) {
                input.become(out);
            }
            out.clear();
            exiting = false;
        }

        int call() {
            Utility utility = Utility.called(fields.at(0));
            if (!utility.takes(fields.size() - 1)) {
                return WRONG_ARGUMENTS;
            }
            lines.read();
            switch (utility) {
                case ECHO:
                    return echo();
                case CAT:
                    return cat();
                case TRUE:
                    return 0;
                case FALSE:
                    return 1;
                case SET:
                    return setPositions();
                case UNSET:
                    return unset();
                case RM:
                    return removeFiles();
                case WC:
                    return countInput();
                case HEAD:
                    return head();
                case REV:
                    return lines.putReversed();
                case SORT:
                    return lines.putSorted();
                case UNIQ:
                    return lines.putChanged();
                case GREP:
                    return lines.putHolding(fields.at(1));
                case TR:
                    return translate();
                case TEST:
                    return test();
                case EXIT:
                    return exit();
                default:
                    return NO_SUCH_UTILITY;
            }
        }

        private int echo() {
            for (int i = 1; i < fields.size(); i++) {
                if (i > 1) {
                    out.add(BLANK);
                }
                out.addRange(fields.at(i), 0, fields.at(i).size());
            }
            out.add(LF);
            return 0;
        }

        private int cat() {
            if (fields.size() == 1) {
                out.addRange(input, 0, input.size());
            }
            int status = 0;
            for (int i = 1; i < fields.size(); i++) {
                int file = state.files.find(fields.at(i));
                out.addRange(state.files.textAt(file), 0, state.files.textAt(file).size());
                status = file < 0 ? 1 : status;
            }
            return status;
        }

        private int setPositions() {
            state.positions.clear();
            for (int i = 1; i < fields.size(); i++) {
                state.positions.add(fields.at(i));
            }
            return 0;
        }

        private int unset() {
            for (int i = 1; i < fields.size(); i++) {
                state.variables.drop(state.variables.find(fields.at(i)));
            }
            return 0;
        }

        private int removeFiles() {
            int status = 0;
            for (int i = 1; i < fields.size(); i++) {
                int file = state.files.find(fields.at(i));
                state.files.drop(file);
                status = file < 0 ? 1 : status;
            }
            return status;
        }

        private int countInput() {
            int ends = 0;
            for (int k = 0; k < input.size(); k++) {
                ends += input.at(k) == LF ? 1 : 0;
            }
            out.addNumber(ends);
            out.add(BLANK);
            out.addNumber(input.size());
            out.add(LF);
            return 0;
        }

        private int translate() {
            if (fields.at(1).size() != 1 || fields.at(2).size() != 1) {
                return WRONG_ARGUMENTS;
            }
            char old = fields.at(1).at(0);
            for (int k = 0; k < input.size(); k++) {
                out.add(input.at(k) == old ? fields.at(2).at(0) : input.at(k));
            }
            return 0;
        }

        private int test() {
            Text first = fields.at(1);
            Text second = fields.at(2);
            boolean holds;
            if (fields.size() == 2) {
                holds = first.size() > 0;
            } else if (fields.size() == 3 && first.is("-e")) {
                holds = state.files.find(second) >= 0;
            } else if (fields.size() == 4 && second.is("=")) {
                holds = first.order(fields.at(3)) == 0;
            } else if (fields.size() == 4 && second.is("!=")) {
                holds = first.order(fields.at(3)) != 0;
            } else {
                return WRONG_ARGUMENTS;
            }
            return holds ? 0 : 1;
        }

        private int exit() {
            int status = fields.size() == 1 ? state.status : fields.at(1).asNumber(3);
            if (status < 0 || status > STATUS_MOST) {
                return WRONG_ARGUMENTS;
            }
            exiting = true;
            return status;
        }

        private int head() {
            int most = fields.at(1).asNumber(2);
            return most < 0 ? WRONG_ARGUMENTS : lines.putFirst(most);
        }
    }

    /** The LINES of an input, by where they stand in it, and the ways to put them out. */
    private static final class Lines {
        private final Text input;
        private final Text out;
        private final Sheet lines;

        Lines(Text input, Text out) {
            this.input = input;
            this.out = out;
            lines = new Sheet(OUTPUT_MOST);
        }

        void read() {
            lines.clear();
            int from = 0;
            for (int line = 0; line < OUTPUT_MOST && from < input.size(); line++) {
                int end = input.find(LF, from);
                lines.add(0, from, end, 0, 0);
                from = end + 1;
            }
        }

        int putSorted() {
            for (int i = 1; i < lines.size(); i++) {
                for (int k = i; k > 0 && order(k - 1, k) > 0; k--) {
                    lines.swap(k - 1, k);
                }
            }
            return putFirst(lines.size());
        }

        int putFirst(int most) {
            for (int i = 0; i < most && i < lines.size(); i++) {
                put(i);
            }
            return 0;
        }

        int putReversed() {
            for (int i = 0; i < lines.size(); i++) {
                for (int k = lines.at(i, Sheet.END) - 1; k >= lines.at(i, Sheet.FROM); k--) {
                    out.add(input.at(k));
                }
                out.add(LF);
            }
            return 0;
        }

        int putChanged() {
            for (int i = 0; i < lines.size(); i++) {
                if (i == 0 || order(i - 1, i) != 0) {
                    put(i);
                }
            }
            return 0;
        }

        int putHolding(Text part) {
            int status = 1;
            for (int i = 0; i < lines.size(); i++) {
                if (holds(i, part)) {
                    put(i);
                    status = 0;
                }
            }
            return status;
        }

        private void put(int line) {
            out.addRange(input, lines.at(line, Sheet.FROM), lines.at(line, Sheet.END));
            out.add(LF);
        }

        private int order(int line, int other) {
            int from = lines.at(line, Sheet.FROM);
            int otherFrom = lines.at(other, Sheet.FROM);
            int size = lines.at(line, Sheet.END) - from;
            int otherSize = lines.at(other, Sheet.END) - otherFrom;
            int both = Math.min(size, otherSize);
            for (int k = 0; k < both; k++) {
                int difference = input.at(from + k) - input.at(otherFrom + k);
                if (difference != 0) {
                    return difference;
                }
            }
            return size - otherSize;
        }

        private boolean holds(int line, Text part) {
            int last = lines.at(line, Sheet.END) - part.size();
            for (int start = lines.at(line, Sheet.FROM); start <= last; start++) {
                int same = 0;
                for (int k = 0; k < part.size() && input.at(start + k) == part.at(k); k++) {
                    same++;
                }
                if (same == part.size()) {
                    return true;
                }
            }
            return false;
        }
    }
}
