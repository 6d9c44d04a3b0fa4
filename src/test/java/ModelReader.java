import java.util.ArrayList;
import java.util.List;
import java.util.regex.Matcher;
import java.util.regex.Pattern;

/** A second reader of texts, written from the document alone, with the patterns of the Java library. */
final class ModelReader {
    private static final Pattern TOKEN = Pattern.compile(
            "[ \n]*(?:(?<cell>[a-z][0-9])|(?<word>[a-z]+)|(?<number>[0-9]+)|(?<other>[^ \n]))");
    private static final Pattern PUZZLE = Pattern.compile("grid N N N ; (?:(?:rows|columns"
            + "|(?:differ|up|odd|even|same)(?: C)+|(?:sum|product|see|apart) N(?: C)+|count N N(?: C)+"
            + "|less C C|is C N) ; )*");
    private static final List<String> WORDS = List.of("grid", "rows", "columns", "differ", "sum", "product",
            "less", "up", "see", "odd", "even", "count", "is", "apart", "same");

    int error;
    int errorAt = -1;
    Model puzzle;

    private final List<String> tokens = new ArrayList<>();
    private final List<Integer> starts = new ArrayList<>();
    private int next;

    ModelReader(String text) {
        StringBuilder kinds = new StringBuilder();
        Matcher matcher = TOKEN.matcher(text);
        int from = 0;
        while (matcher.find(from)) {
            from = matcher.end();
            String kind = "?";
            String token = text.substring(from - 1, from);
            if (matcher.group("cell") != null) {
                kind = "C";
                token = matcher.group("cell");
            } else if (matcher.group("word") != null) {
                token = matcher.group("word");
                kind = WORDS.contains(token) ? token : "?";
            } else if (matcher.group("number") != null) {
                token = matcher.group("number");
                kind = token.length() <= 4 ? "N" : "?";
            } else if (token.equals(";")) {
                kind = ";";
            }
            tokens.add(token);
            starts.add(from - token.length());
            kinds.append(kind).append(' ');
            Matcher whole = PUZZLE.matcher(kinds);
            if (!whole.matches() && !whole.hitEnd()) {
                fail(1, starts.get(starts.size() - 1));
                return;
            }
        }
        if (!PUZZLE.matcher(kinds).matches()) {
            fail(1, text.length());
            return;
        }
        readMeaning();
    }

    private void fail(int newError, int at) {
        if (error == 0) {
            error = newError;
            errorAt = at;
        }
    }

    private int number(int least, int most) {
        int number = Integer.parseInt(tokens.get(next));
        if (number < least || number > most) {
            fail(2, starts.get(next));
        }
        next++;
        return number;
    }

    private void readMeaning() {
        next = 1;
        int w = number(2, 5);
        int h = number(2, 5);
        int k = number(2, 5);
        if (error != 0) {
            return;
        }
        puzzle = new Model(w, h, k);
        while (error == 0 && ++next < tokens.size()) {
            readRule(tokens.get(next));
        }
        if (error != 0) {
            puzzle = null;
        }
    }

    private void readRule(String word) {
        int start = starts.get(next);
        next++;
        if (word.equals("rows") || word.equals("columns")) {
            boolean areRows = word.equals("rows");
            for (int line = 0; line < (areRows ? puzzle.h : puzzle.w); line++) {
                int[] cells = new int[areRows ? puzzle.w : puzzle.h];
                for (int i = 0; i < cells.length; i++) {
                    cells[i] = areRows ? i + puzzle.w * line : line + puzzle.w * i;
                }
                puzzle.rules.add(new Model.ModelRule("differ", 0, 0, cells));
            }
            if (puzzle.rules.size() > 40) {
                fail(4, start);
            }
            return;
        }
        if (puzzle.rules.size() == 40) {
            fail(4, start);
        }
        int number = 0;
        int times = 0;
        switch (word) {
            case "sum", "product" -> number = number(0, 9999);
            case "see" -> number = number(1, 5);
            case "apart" -> number = number(1, 4);
            case "count" -> {
                number = number(1, puzzle.k);
                times = number(0, 5);
            }
            default -> { }
        }
        int[] cells = readCells();
        if (word.equals("is")) {
            number = number(1, puzzle.k);
        }
        puzzle.rules.add(new Model.ModelRule(word, number, times, cells));
    }

    private int[] readCells() {
        List<Integer> cells = new ArrayList<>();
        while (Character.isLetter(tokens.get(next).charAt(0))) {
            int column = tokens.get(next).charAt(0) - 'a';
            int row = tokens.get(next).charAt(1) - '1';
            int cell = column + puzzle.w * row;
            if (column >= puzzle.w || row < 0 || row >= puzzle.h) {
                fail(2, starts.get(next));
            } else if (cells.contains(cell)) {
                fail(3, starts.get(next));
            } else if (cells.size() == 5) {
                fail(4, starts.get(next));
            }
            cells.add(cell);
            next++;
        }
        int[] all = new int[cells.size()];
        for (int i = 0; i < all.length; i++) {
            all[i] = cells.get(i);
        }
        return all;
    }
}
