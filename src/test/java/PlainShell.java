import java.util.ArrayList;
import java.util.Arrays;
import java.util.Collections;
import java.util.LinkedHashSet;
import java.util.List;
import java.util.TreeMap;
import java.util.regex.Pattern;
import java.util.stream.Collectors;

/**
 * A second shell by the same document, with the whole Java library, a tree for the script and texts for all else:
 * as unlike TinyShell inside as can be, so that a slip in one of them shows as a difference.
 */
final class PlainShell {
    @SuppressWarnings("serial")
    static final class Malformed extends RuntimeException { }

    @SuppressWarnings("serial")
    static final class TooMuch extends RuntimeException { }

    /** One character of an expanded word; quotes that hold nothing are a cell with no character. */
    record Cell(String text, boolean quoted, boolean given) { }

    record Piece(char kind, String text, boolean quoted, String other) { }

    record Item(String kind, String name, List<Piece> pieces) { }

    record Pipeline(String join, List<List<Item>> commands) { }

    TreeMap<String, String> variables = new TreeMap<>();
    TreeMap<String, String> files = new TreeMap<>();
    List<String> positions = new ArrayList<>();
    int status = 0;
    String output = "";
    int place = 0;

    private String script = "";
    private int at = 0;
    private boolean exited = false;

    int run(String text) {
        script = text;
        at = 0;
        List<Pipeline> pipelines = parseScript();
        TreeMap<String, String> oldVariables = new TreeMap<>(variables);
        TreeMap<String, String> oldFiles = new TreeMap<>(files);
        List<String> oldPositions = new ArrayList<>(positions);
        int oldStatus = status;
        String oldOutput = output;
        try {
            output = "";
            exited = false;
            for (Pipeline pipeline : pipelines) {
                boolean due = switch (pipeline.join()) {
                    case "&&" -> status == 0;
                    case "||" -> status != 0;
                    default -> true;
                };
                if (due && !exited) {
                    runPipeline(pipeline.commands());
                }
            }
            return status;
        } catch (TooMuch e) {
            variables = oldVariables;
            files = oldFiles;
            positions = oldPositions;
            status = oldStatus;
            output = oldOutput;
            throw e;
        }
    }

    // ---- reading

    private Malformed bad(int where) {
        place = where;
        return new Malformed();
    }

    private boolean more() {
        return at < script.length();
    }

    private boolean sees(String text) {
        return script.startsWith(text, at);
    }

    private void skip() {
        while (more() && script.charAt(at) == ' ') {
            at++;
        }
        if (sees("#")) {
            int end = script.indexOf('\n', at);
            at = end < 0 ? script.length() : end;
        }
    }

    private void skipNewlines() {
        skip();
        while (sees("\n")) {
            at++;
            skip();
        }
    }

    private boolean take(String operator) {
        skip();
        if (!sees(operator)) {
            return false;
        }
        at += operator.length();
        return true;
    }

    private List<Pipeline> parseScript() {
        List<Pipeline> all = new ArrayList<>();
        skipNewlines();
        while (more()) {
            all.add(new Pipeline(";", parsePipeline()));
            for (boolean joined = true; joined;) {
                if (take("&&")) {
                    skipNewlines();
                    all.add(new Pipeline("&&", parsePipeline()));
                } else if (take("||")) {
                    skipNewlines();
                    all.add(new Pipeline("||", parsePipeline()));
                } else {
                    joined = false;
                }
            }
            if (more() && !take(";") && !take("\n")) {
                throw bad(at);
            }
            skipNewlines();
        }
        return all;
    }

    private List<List<Item>> parsePipeline() {
        List<List<Item>> commands = new ArrayList<>();
        commands.add(parseCommand());
        for (skip(); sees("|") && !sees("||"); skip()) {
            at++;
            skipNewlines();
            commands.add(parseCommand());
        }
        return commands;
    }

    private List<Item> parseCommand() {
        List<Item> items = new ArrayList<>();
        boolean words = false;
        for (;;) {
            skip();
            if (!more() || "\n;|&()".indexOf(script.charAt(at)) >= 0) {
                break;
            }
            String operator = take(">>") ? ">>" : take(">") ? ">" : take("<") ? "<" : "";
            if (!operator.isEmpty()) {
                skip();
                if (!more() || "\n;|&()<>".indexOf(script.charAt(at)) >= 0) {
                    throw bad(at);
                }
                items.add(new Item(operator, "", parseWord()));
                continue;
            }
            String rest = script.substring(at);
            String name = rest.replaceAll("(?s)^([A-Za-z_][A-Za-z0-9_]*)=.*$", "$1");
            if (!words && !name.equals(rest)) {
                at += name.length() + 1;
                items.add(new Item("=", name, parseWord()));
            } else {
                words = true;
                items.add(new Item("word", "", parseWord()));
            }
        }
        if (items.isEmpty()) {
            throw bad(at);
        }
        return items;
    }

    private List<Piece> parseWord() {
        List<Piece> pieces = new ArrayList<>();
        while (more() && " \n|&;<>()".indexOf(script.charAt(at)) < 0) {
            char c = script.charAt(at);
            if (c == '\'') {
                int end = script.indexOf('\'', at + 1);
                if (end < 0) {
                    throw bad(script.length());
                }
                pieces.add(new Piece('q', script.substring(at + 1, end), true, ""));
                at = end + 1;
            } else if (c == '"') {
                parseDouble(pieces);
            } else if (c == '\\') {
                at++;
                pieces.add(new Piece('c', String.valueOf(escaped()), true, ""));
            } else if (c == '$') {
                pieces.add(parseDollar(false));
            } else {
                pieces.add(new Piece('c', String.valueOf(c), false, ""));
                at++;
            }
        }
        return pieces;
    }

    private char escaped() {
        if (!more() || script.charAt(at) == '\n') {
            throw bad(at);
        }
        return script.charAt(at++);
    }

    private void parseDouble(List<Piece> pieces) {
        at++;
        pieces.add(new Piece('q', "", true, ""));
        while (more() && script.charAt(at) != '"') {
            char c = script.charAt(at);
            if (c == '$') {
                pieces.add(parseDollar(true));
                continue;
            }
            at++;
            String text = String.valueOf(c);
            if (c == '\\') {
                char next = escaped();
                text = "$\"\\".indexOf(next) >= 0 ? String.valueOf(next) : "\\" + next;
            }
            pieces.add(new Piece('c', text, true, ""));
        }
        if (!more()) {
            throw bad(at);
        }
        at++;
    }

    private String takeName() {
        int from = at;
        while (more() && String.valueOf(script.charAt(at)).matches(at == from ? "[A-Za-z_]" : "[A-Za-z0-9_]")) {
            at++;
        }
        return script.substring(from, at);
    }

    private Piece parseDollar(boolean quoted) {
        at++;
        if (sees("{")) {
            at++;
            String name = takeName();
            if (name.isEmpty()) {
                throw bad(at);
            }
            String text = "";
            if (sees(":")) {
                at++;
                if (!sees("-")) {
                    throw bad(at);
                }
                at++;
                int from = at;
                while (more() && "}\n'\"\\$".indexOf(script.charAt(at)) < 0) {
                    at++;
                }
                text = script.substring(from, at);
            }
            if (!sees("}")) {
                throw bad(at);
            }
            at++;
            return new Piece('p', name, quoted, text);
        }
        String name = takeName();
        if (name.isEmpty() && more() && "123456789#?".indexOf(script.charAt(at)) >= 0) {
            name = script.substring(at, at + 1);
            at++;
        }
        return name.isEmpty() ? new Piece('c', "$", quoted, "") : new Piece('p', name, quoted, "");
    }

    // ---- expanding

    private String parameter(String name) {
        if (name.equals("#")) {
            return String.valueOf(positions.size());
        }
        if (name.equals("?")) {
            return String.valueOf(status);
        }
        if (Character.isDigit(name.charAt(0))) {
            int i = Integer.parseInt(name);
            return i <= positions.size() ? positions.get(i - 1) : "";
        }
        return variables.getOrDefault(name, "");
    }

    private List<Cell> cells(List<Piece> pieces) {
        List<Cell> cells = new ArrayList<>();
        for (Piece piece : pieces) {
            String text = piece.text();
            if (piece.kind() == 'p') {
                String found = parameter(text);
                text = found.isEmpty() ? piece.other() : found;
            }
            if (piece.kind() == 'q') {
                cells.add(new Cell("", true, false));
            }
            for (String c : text.split("")) {
                if (!c.isEmpty()) {
                    cells.add(new Cell(c, piece.quoted(), piece.kind() == 'p'));
                }
            }
        }
        return cells;
    }

    private static String textOf(List<Cell> cells) {
        return cells.stream().map(Cell::text).collect(Collectors.joining());
    }

    private String whole(Item item, int most) {
        String text = textOf(cells(item.pieces()));
        if (text.length() > most) {
            throw new TooMuch();
        }
        return text;
    }

    private List<String> fields(Item item) {
        List<List<Cell>> parts = new ArrayList<>();
        parts.add(new ArrayList<>());
        for (Cell cell : cells(item.pieces())) {
            if (cell.given() && !cell.quoted() && (cell.text().equals(" ") || cell.text().equals("\n"))) {
                parts.add(new ArrayList<>());
            } else {
                parts.get(parts.size() - 1).add(cell);
            }
        }
        List<String> fields = new ArrayList<>();
        for (List<Cell> part : parts) {
            if (!part.isEmpty()) {
                fields.addAll(names(part));
            }
        }
        return fields;
    }

    private List<String> names(List<Cell> field) {
        String text = textOf(field);
        if (text.length() > 40) {
            throw new TooMuch();
        }
        StringBuilder pattern = new StringBuilder();
        boolean wild = false;
        for (Cell cell : field) {
            boolean star = !cell.quoted() && cell.text().equals("*");
            boolean one = !cell.quoted() && cell.text().equals("?");
            wild |= star || one;
            pattern.append(star ? ".*" : one ? "." : Pattern.quote(cell.text()));
        }
        if (wild) {
            Pattern compiled = Pattern.compile(pattern.toString(), Pattern.DOTALL);
            List<String> found = files.keySet().stream().filter(f -> compiled.matcher(f).matches()).toList();
            if (!found.isEmpty()) {
                return found;
            }
        }
        return List.of(text);
    }

    // ---- running

    private void runPipeline(List<List<Item>> commands) {
        if (commands.size() > 6) {
            throw new TooMuch();
        }
        String passed = "";
        int last = 0;
        for (List<Item> command : commands) {
            TreeMap<String, String> ownVariables = new TreeMap<>(variables);
            List<String> ownPositions = new ArrayList<>(positions);
            StringBuilder out = new StringBuilder();
            last = runCommand(command, passed, out, commands.size() == 1);
            passed = out.toString();
            if (commands.size() > 1) {
                variables = ownVariables;
                positions = ownPositions;
            }
        }
        output += passed;
        if (output.length() > 240) {
            throw new TooMuch();
        }
        status = last;
    }

    private int runCommand(List<Item> command, String passed, StringBuilder out, boolean alone) {
        List<String> fields = new ArrayList<>();
        for (Item item : command) {
            if (item.kind().equals("word")) {
                fields.addAll(fields(item));
            }
        }
        if (fields.size() > 16) {
            throw new TooMuch();
        }
        String inputName = null;
        String outputName = null;
        for (Item item : command) {
            if (!List.of("<", ">", ">>").contains(item.kind())) {
                continue;
            }
            String name = whole(item, 8);
            if (name.isEmpty() || item.kind().equals("<") && !files.containsKey(name)) {
                return 1;
            }
            if (item.kind().equals("<")) {
                inputName = name;
                continue;
            }
            outputName = name;
            String old = files.getOrDefault(name, "");
            putFile(name, item.kind().equals(">") ? "" : old);
        }
        for (Item item : command) {
            if (item.kind().equals("=")) {
                String value = whole(item, 40);
                if (fields.isEmpty()) {
                    variables.put(item.name(), value);
                    if (item.name().length() > 6 || variables.size() > 8) {
                        throw new TooMuch();
                    }
                }
            }
        }
        if (fields.isEmpty()) {
            return 0;
        }
        String input = inputName == null ? passed : files.get(inputName);
        int result = utility(fields.get(0), fields.subList(1, fields.size()), input, out, alone);
        if (out.length() > 240) {
            throw new TooMuch();
        }
        if (outputName != null) {
            if (files.containsKey(outputName)) {
                putFile(outputName, files.get(outputName) + out);
            }
            out.setLength(0);
        }
        return result;
    }

    private void putFile(String name, String text) {
        files.put(name, text);
        if (files.size() > 8 || text.length() > 80) {
            throw new TooMuch();
        }
    }

    private int utility(String name, List<String> words, String input, StringBuilder out, boolean alone) {
        int n = words.size();
        List<String> lines = new ArrayList<>(Arrays.asList(input.split("\n", -1)));
        if (lines.get(lines.size() - 1).isEmpty()) {
            lines.remove(lines.size() - 1);
        }
        switch (name) {
            case "echo":
                out.append(String.join(" ", words)).append('\n');
                return 0;
            case "cat":
                out.append(n == 0 ? input : words.stream().map(w -> files.getOrDefault(w, "")).collect(Collectors.joining()));
                return files.keySet().containsAll(words) ? 0 : 1;
            case "true":
                return n == 0 ? 0 : 2;
            case "false":
                return n == 0 ? 1 : 2;
            case "set":
                positions = new ArrayList<>(words);
                if (n > 9) {
                    throw new TooMuch();
                }
                return 0;
            case "unset":
                variables.keySet().removeAll(words);
                return 0;
            case "rm":
                boolean all = files.keySet().containsAll(words) && new LinkedHashSet<>(words).size() == n;
                files.keySet().removeAll(words);
                return all ? 0 : 1;
            case "wc":
                if (n == 0) {
                    out.append(input.chars().filter(c -> c == '\n').count()).append(' ').append(input.length()).append('\n');
                }
                return n == 0 ? 0 : 2;
            case "tr":
                if (n != 2 || words.get(0).length() != 1 || words.get(1).length() != 1) {
                    return 2;
                }
                out.append(input.replace(words.get(0), words.get(1)));
                return 0;
            case "test":
                return test(words);
            case "exit":
                return exit(words, alone);
            default:
                return lineUtility(name, words, lines, out);
        }
    }

    private int lineUtility(String name, List<String> words, List<String> lines, StringBuilder out) {
        int n = words.size();
        List<String> shown;
        switch (name) {
            case "head":
                if (n != 1 || !words.get(0).matches("[0-9]{1,2}")) {
                    return 2;
                }
                shown = lines.subList(0, Math.min(lines.size(), Integer.parseInt(words.get(0))));
                break;
            case "grep":
                if (n != 1) {
                    return 2;
                }
                shown = lines.stream().filter(line -> line.contains(words.get(0))).toList();
                break;
            case "rev":
                shown = lines.stream().map(line -> new StringBuilder(line).reverse().toString()).toList();
                break;
            case "sort":
                shown = new ArrayList<>(lines);
                Collections.sort(shown);
                break;
            case "uniq":
                shown = new ArrayList<>();
                for (String line : lines) {
                    if (shown.isEmpty() || !shown.get(shown.size() - 1).equals(line)) {
                        shown.add(line);
                    }
                }
                break;
            default:
                return 127;
        }
        if (n > 0 && !name.equals("head") && !name.equals("grep")) {
            return 2;
        }
        shown.forEach(line -> out.append(line).append('\n'));
        return name.equals("grep") && shown.isEmpty() ? 1 : 0;
    }

    private int test(List<String> words) {
        if (words.size() == 1) {
            return words.get(0).isEmpty() ? 1 : 0;
        }
        if (words.size() == 2 && words.get(0).equals("-e")) {
            return files.containsKey(words.get(1)) ? 0 : 1;
        }
        if (words.size() == 3 && words.get(1).equals("=")) {
            return words.get(0).equals(words.get(2)) ? 0 : 1;
        }
        if (words.size() == 3 && words.get(1).equals("!=")) {
            return words.get(0).equals(words.get(2)) ? 1 : 0;
        }
        return 2;
    }

    private int exit(List<String> words, boolean alone) {
        int result = status;
        if (words.size() == 1 && words.get(0).matches("[0-9]{1,3}")) {
            result = Integer.parseInt(words.get(0));
        } else if (!words.isEmpty()) {
            return 2;
        }
        if (result > 255) {
            return 2;
        }
        exited = alone;
        return result;
    }

    /** As Checks.state tells it of a TinyShell. */
    String state() {
        StringBuilder text = new StringBuilder("variables");
        variables.forEach((name, value) -> text.append(' ').append(name).append("=[").append(value).append(']'));
        text.append("; positions");
        positions.forEach(value -> text.append(" [").append(value).append(']'));
        text.append("; files");
        files.forEach((name, value) -> text.append(' ').append(name).append("=[").append(value).append(']'));
        return text + "; status " + status + "; output " + output.length() + " [" + output + "]";
    }
}
