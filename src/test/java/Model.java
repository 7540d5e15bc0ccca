import java.util.ArrayList;
import java.util.HashSet;
import java.util.List;
import java.util.Set;

/**
 * The document once more, told as slowly and plainly as it can be: texts are cut into tokens, names
 * are made from the top down and anew for each question. Tests compare NumberWords with it.
 */
final class Model {
    private static final int NONE = -1, UNKNOWN = -1001, OUTSIDE = -1002, NOT = -1003, FULL = -1004;

    private record Part(String letters, char asked, boolean bracketed) { }

    private record Clause(int from, int to, int unit, List<Part> parts) { }

    private record Token(char kind, String text, int at) { }

    private record Name(String text, int deep, int clause) { }

    private static final class Fault extends RuntimeException {
        private static final long serialVersionUID = 1L;
        private final int number;
        private final int at;

        Fault(int number, int at) {
            this.number = number;
            this.at = at;
        }
    }

    private String text = "";
    private String draft = "";
    private int faultAt = NONE;
    private final List<List<Clause>> tongues = new ArrayList<>();
    private final List<Name[]> names = new ArrayList<>();

    Model() {
        for (int i = 0; i < 3; i++) {
            tongues.add(List.of());
            names.add(new Name[1000]);
        }
    }

    // ---- texts

    int feed(int n, long bytes) {
        if (n < 1 || n > 8) {
            return OUTSIDE;
        }
        if (text.length() + n > 240) {
            return FULL;
        }
        for (int i = n; i > 0; i--) {
            text += (char) (bytes >>> 8 * (i - 1) & 255);
        }
        return text.length();
    }

    int read(int tongue) {
        if (!isTongue(tongue)) {
            return UNKNOWN;
        }
        String told = text;
        text = "";
        try {
            List<Clause> clauses = new Parse(told).clauses();
            faultAt = NONE;
            tongues.set(tongue, clauses);
            Name[] all = new Name[1000];
            for (int n = 0; n < 1000; n++) {
                all[n] = make(clauses, n, new ArrayList<>());
            }
            names.set(tongue, all);
            return clauses.size();
        } catch (Fault fault) {
            faultAt = fault.at;
            return -10 - fault.number;
        }
    }

    int fault() {
        return faultAt;
    }

    private static final class Parse {
        private final List<Token> tokens = new ArrayList<>();
        private int next;

        Parse(String text) {
            int i = 0;
            while (i < text.length()) {
                char c = text.charAt(i);
                int end = i + 1;
                char kind = c;
                if (c >= 'a' && c <= 'z') {
                    kind = 'w';
                    while (end < text.length() && text.charAt(end) >= 'a' && text.charAt(end) <= 'z') {
                        end++;
                    }
                } else if (c >= '0' && c <= '9') {
                    kind = '0';
                    while (end < text.length() && text.charAt(end) >= '0' && text.charAt(end) <= '9') {
                        end++;
                    }
                } else if (c == '#') {
                    end = Math.min(i + 2, text.length());
                }
                if (c != ' ') {
                    tokens.add(new Token(kind, text.substring(i, end), i));
                }
                i = end;
            }
            tokens.add(new Token('.', "", text.length()));
            // A real point must not be taken for the end.
            for (int k = 0; k + 1 < tokens.size(); k++) {
                if (tokens.get(k).kind == '.') {
                    tokens.set(k, new Token('?', ".", tokens.get(k).at));
                }
            }
        }

        private Token look() {
            return tokens.get(next);
        }

        private Token take(char kind) {
            Token token = look();
            if (token.kind != kind) {
                throw new Fault(1, token.at);
            }
            next++;
            return token;
        }

        private void keyword(String word) {
            if (!look().text.equals(word)) {
                throw new Fault(1, look().at);
            }
            next++;
        }

        private int number(int least, int most) {
            Token token = take('0');
            int value = token.text.length() > 3 ? -1 : Integer.parseInt(token.text);
            if (value < least || value > most) {
                throw new Fault(2, token.at);
            }
            return value;
        }

        private String letters() {
            Token token = take('w');
            if (token.text.length() > 12) {
                throw new Fault(4, token.at + 12);
            }
            return token.text;
        }

        List<Clause> clauses() {
            List<Clause> clauses = new ArrayList<>();
            while (look().kind != '.') {
                boolean known = look().text.equals("word") || look().text.equals("for");
                if (!known) {
                    throw new Fault(1, look().at);
                }
                if (clauses.size() == 12) {
                    throw new Fault(5, look().at);
                }
                clauses.add(look().text.equals("word") ? word(clauses) : ranged());
            }
            return clauses;
        }

        private Clause word(List<Clause> ahead) {
            keyword("word");
            int at = look().at;
            int n = number(0, 999);
            for (Clause clause : ahead) {
                if (clause.unit == 0 && clause.from == n) {
                    throw new Fault(3, at);
                }
            }
            Clause clause = new Clause(n, n, 0, List.of(new Part(letters(), ' ', false)));
            take(';');
            return clause;
        }

        private Clause ranged() {
            keyword("for");
            int from = number(0, 999);
            keyword("to");
            int to = number(from, 999);
            keyword("by");
            int unit = number(2, 500);
            take(':');
            List<Part> parts = new ArrayList<>();
            do {
                if (look().kind == '[') {
                    take('[');
                    do {
                        parts.add(part(parts.size(), true));
                    } while (look().kind != ']' && (look().kind == 'w' || look().kind == '#'));
                    take(']');
                } else {
                    parts.add(part(parts.size(), false));
                }
            } while (look().kind != ';');
            take(';');
            return new Clause(from, to, unit, parts);
        }

        private Part part(int ahead, boolean bracketed) {
            Token token = look();
            if (token.kind != 'w' && token.kind != '#') {
                throw new Fault(1, token.at);
            }
            if (ahead == 8) {
                throw new Fault(6, token.at);
            }
            if (token.kind == 'w') {
                return new Part(letters(), ' ', bracketed);
            }
            if (token.text.length() < 2 || "qtrcn".indexOf(token.text.charAt(1)) < 0) {
                throw new Fault(1, token.at + 1);
            }
            next++;
            return new Part("", token.text.charAt(1), bracketed);
        }
    }

    // ---- names

    private static Name make(List<Clause> clauses, int n, List<Integer> within) {
        if (n > 999 || within.contains(n) || within.size() >= 8) {
            return null;
        }
        int chosen = NONE;
        for (int i = clauses.size() - 1; i >= 0; i--) {
            Clause clause = clauses.get(i);
            boolean better = clause.unit == 0 || chosen == NONE || clauses.get(chosen).unit != 0;
            if (clause.from <= n && n <= clause.to && better) {
                chosen = i;
            }
        }
        if (chosen == NONE) {
            return null;
        }
        Clause clause = clauses.get(chosen);
        if (clause.unit == 0) {
            return new Name(clause.parts.get(0).letters, 1, chosen);
        }
        List<Integer> here = new ArrayList<>(within);
        here.add(n);
        List<String> texts = new ArrayList<>();
        int deep = 1;
        int rest = n % clause.unit;
        for (Part part : clause.parts) {
            if (part.bracketed && rest == 0) {
                continue;
            }
            if (part.asked == ' ') {
                texts.add(part.letters);
                continue;
            }
            int m = switch (part.asked) {
                case 'q' -> n / clause.unit;
                case 't' -> n - rest;
                case 'r' -> rest;
                case 'c' -> clause.unit - rest;
                default -> n - rest + clause.unit;
            };
            Name name = make(clauses, m, here);
            if (name == null) {
                return null;
            }
            deep = Math.max(deep, name.deep + 1);
            if (!name.text.isEmpty()) {
                texts.add(name.text);
            }
        }
        String joined = String.join(" ", texts);
        return joined.length() > 60 ? null : new Name(joined, deep, chosen);
    }

    private static boolean isTongue(int tongue) {
        return tongue >= 0 && tongue <= 2;
    }

    private static boolean isNumber(int n) {
        return n >= 0 && n <= 999;
    }

    private String nameOf(int tongue, int n) {
        Name name = names.get(tongue)[n];
        return name == null ? null : name.text;
    }

    private String runOf(int tongue, int n) {
        String name = nameOf(tongue, n);
        return name == null ? null : name.replace(" ", "");
    }

    private static int sizeOrByte(String name, int i) {
        if (name == null) {
            return NONE;
        }
        if (i == NONE) {
            return name.length();
        }
        return i >= 0 && i < name.length() ? name.charAt(i) : NONE;
    }

    private static int pick(List<Integer> row, int i) {
        return i >= 0 && i < row.size() ? row.get(i) : NONE;
    }

    private List<Integer> named(int tongue) {
        List<Integer> row = new ArrayList<>();
        for (int n = 0; n < 1000; n++) {
            if (nameOf(tongue, n) != null) {
                row.add(n);
            }
        }
        return row;
    }

    private List<Integer> honestOnes(int tongue) {
        List<Integer> row = new ArrayList<>();
        for (int n : named(tongue)) {
            if (runOf(tongue, n).length() == n) {
                row.add(n);
            }
        }
        return row;
    }

    int about(int tongue, int what) {
        if (!isTongue(tongue)) {
            return UNKNOWN;
        }
        List<Integer> named = named(tongue);
        int nameless = 0;
        while (nameless < 1000 && named.contains(nameless)) {
            nameless++;
        }
        return switch (what) {
            case 0 -> tongues.get(tongue).size();
            case 1 -> named.size();
            case 2 -> named.isEmpty() ? NONE : named.get(named.size() - 1);
            case 3 -> nameless == 1000 ? NONE : nameless;
            case 4 -> honestOnes(tongue).size();
            case 5 -> text.length();
            case 6 -> draft.length();
            default -> OUTSIDE;
        };
    }

    int name(int tongue, int n, int i) {
        return isTongue(tongue) && isNumber(n) ? sizeOrByte(nameOf(tongue, n), i) : UNKNOWN;
    }

    int letters(int tongue, int n) {
        if (!isTongue(tongue) || !isNumber(n)) {
            return UNKNOWN;
        }
        return nameOf(tongue, n) == null ? NONE : runOf(tongue, n).length();
    }

    int by(int tongue, int n) {
        if (!isTongue(tongue) || !isNumber(n)) {
            return UNKNOWN;
        }
        return nameOf(tongue, n) == null ? NONE : names.get(tongue)[n].clause;
    }

    int deep(int tongue, int n) {
        if (!isTongue(tongue) || !isNumber(n)) {
            return UNKNOWN;
        }
        return nameOf(tongue, n) == null ? NONE : names.get(tongue)[n].deep;
    }

    int uses(int tongue, int letter, int a, int b) {
        if (!isTongue(tongue) || !isNumber(a) || !isNumber(b)) {
            return UNKNOWN;
        }
        if (letter < 0 || letter > 25 || b < a) {
            return OUTSIDE;
        }
        int sum = 0;
        for (int n : named(tongue)) {
            if (a <= n && n <= b) {
                String name = nameOf(tongue, n);
                sum += name.length() - name.replace("" + (char) ('a' + letter), "").length();
            }
        }
        return sum;
    }

    int first(int tongue, int letter) {
        if (!isTongue(tongue)) {
            return UNKNOWN;
        }
        if (letter < 0 || letter > 25) {
            return OUTSIDE;
        }
        for (int n : named(tongue)) {
            if (nameOf(tongue, n).indexOf('a' + letter) >= 0) {
                return n;
            }
        }
        return NONE;
    }

    int song(int tongue, int a, int b) {
        if (!isTongue(tongue) || !isNumber(a) || !isNumber(b)) {
            return UNKNOWN;
        }
        if (b < a) {
            return OUTSIDE;
        }
        int sum = 0;
        for (int n : named(tongue)) {
            sum += a <= n && n <= b ? runOf(tongue, n).length() : 0;
        }
        return sum;
    }

    // ---- order, twins

    private List<Integer> inOrder(int tongue) {
        List<Integer> row = named(tongue);
        row.sort((n, m) -> {
            int way = nameOf(tongue, n).compareTo(nameOf(tongue, m));
            return way != 0 ? way : n - m;
        });
        return row;
    }

    int order(int tongue, int i) {
        return isTongue(tongue) ? pick(inOrder(tongue), i) : UNKNOWN;
    }

    int place(int tongue, int n) {
        return isTongue(tongue) && isNumber(n) ? inOrder(tongue).indexOf(n) : UNKNOWN;
    }

    int twins(int tongue, int what) {
        if (!isTongue(tongue)) {
            return UNKNOWN;
        }
        if (what < 0 || what > 2) {
            return OUTSIDE;
        }
        int lesser = NONE;
        int greater = NONE;
        Set<Integer> all = new HashSet<>();
        for (int n : named(tongue)) {
            for (int m : named(tongue)) {
                if (m < n && runOf(tongue, m).equals(runOf(tongue, n))) {
                    if (greater == NONE) {
                        lesser = m;
                        greater = n;
                    }
                    all.add(n);
                    all.add(m);
                }
            }
        }
        return what == 2 ? all.size() : what == 0 ? lesser : greater;
    }

    // ---- the draft

    int write(int c) {
        if (c != 32 && (c < 97 || c > 122)) {
            return OUTSIDE;
        }
        if (draft.length() == 60) {
            return FULL;
        }
        draft += (char) c;
        return draft.length();
    }

    int clear() {
        int had = draft.length();
        draft = "";
        return had;
    }

    private List<Integer> readings(int tongue, boolean run) {
        List<Integer> row = new ArrayList<>();
        for (int n : named(tongue)) {
            if (run ? runOf(tongue, n).equals(draft.replace(" ", "")) : nameOf(tongue, n).equals(draft)) {
                row.add(n);
            }
        }
        return row;
    }

    int find(int tongue, boolean run, int i) {
        if (!isTongue(tongue)) {
            return UNKNOWN;
        }
        return i == NONE ? readings(tongue, run).size() : pick(readings(tongue, run), i);
    }

    int nearest(int tongue, int what) {
        if (!isTongue(tongue)) {
            return UNKNOWN;
        }
        if (what < 0 || what > 1) {
            return OUTSIDE;
        }
        int best = NONE;
        int least = Integer.MAX_VALUE;
        for (int n : named(tongue)) {
            int far = way(draft.replace(" ", ""), runOf(tongue, n));
            if (far < least) {
                least = far;
                best = n;
            }
        }
        return best == NONE ? NONE : what == 0 ? best : least;
    }

    int led(int a, int b, int i) {
        if (!isTongue(a) || !isTongue(b)) {
            return UNKNOWN;
        }
        List<Integer> readings = readings(a, false);
        if (readings.isEmpty() || nameOf(b, readings.get(0)) == null) {
            return NOT;
        }
        return sizeOrByte(nameOf(b, readings.get(0)), i);
    }

    // ---- chains, mixed up, squares

    int chain(int tongue, int n, int what) {
        if (!isTongue(tongue) || !isNumber(n)) {
            return UNKNOWN;
        }
        if (what < 0 || what > 2) {
            return OUTSIDE;
        }
        List<Integer> row = new ArrayList<>();
        int next = n;
        while (next != NONE && !row.contains(next)) {
            row.add(next);
            next = letters(tongue, next);
        }
        return what == 0 ? row.size() : what == 1 ? row.get(row.size() - 1) : next;
    }

    int honest(int tongue, int i) {
        return isTongue(tongue) ? pick(honestOnes(tongue), i) : UNKNOWN;
    }

    private static int way(String a, String b) {
        int[][] table = new int[a.length() + 1][b.length() + 1];
        for (int i = 0; i <= a.length(); i++) {
            for (int j = 0; j <= b.length(); j++) {
                if (i == 0 || j == 0) {
                    table[i][j] = i + j;
                } else {
                    int changed = table[i - 1][j - 1] + (a.charAt(i - 1) == b.charAt(j - 1) ? 0 : 1);
                    table[i][j] = Math.min(changed, 1 + Math.min(table[i - 1][j], table[i][j - 1]));
                }
            }
        }
        return table[a.length()][b.length()];
    }

    int far(int tongue, int n, int m) {
        if (!isTongue(tongue) || !isNumber(n) || !isNumber(m)) {
            return UNKNOWN;
        }
        if (nameOf(tongue, n) == null || nameOf(tongue, m) == null) {
            return NONE;
        }
        return way(runOf(tongue, n), runOf(tongue, m));
    }

    int mixed(int tongue, int d, int a, int b) {
        if (!isTongue(tongue) || !isNumber(a) || !isNumber(b)) {
            return UNKNOWN;
        }
        if (d < 0 || d > 9 || b < a || b - a > 60) {
            return OUTSIDE;
        }
        int pairs = 0;
        for (int n = a; n <= b; n++) {
            for (int m = a; m < n; m++) {
                int far = far(tongue, n, m);
                pairs += far != NONE && far <= d ? 1 : 0;
            }
        }
        return pairs;
    }

    private static int[][] rows(int m, int u, int v) {
        return new int[][] {{m + u, m - u - v, m + v}, {m - u + v, m, m + u - v}, {m - v, m + u + v, m - u}};
    }

    int square(int tongue, int m, int u, int v) {
        if (!isTongue(tongue)) {
            return UNKNOWN;
        }
        if (!isNumber(m) || u < -999 || u > 999 || v < -999 || v > 999) {
            return OUTSIDE;
        }
        int[][] rows = rows(m, u, v);
        for (int[] row : rows) {
            for (int n : row) {
                if (!isNumber(n)) {
                    return NONE;
                }
            }
        }
        int[][] l = new int[3][3];
        for (int i = 0; i < 3; i++) {
            for (int j = 0; j < 3; j++) {
                l[i][j] = letters(tongue, rows[i][j]);
                if (l[i][j] == NONE) {
                    return 0;
                }
            }
        }
        Set<Integer> sums = new HashSet<>();
        for (int i = 0; i < 3; i++) {
            sums.add(l[i][0] + l[i][1] + l[i][2]);
            sums.add(l[0][i] + l[1][i] + l[2][i]);
        }
        sums.add(l[0][0] + l[1][1] + l[2][2]);
        sums.add(l[0][2] + l[1][1] + l[2][0]);
        return sums.size() == 1 ? 1 : 0;
    }

    int squares(int tongue, int m) {
        if (!isTongue(tongue) || !isNumber(m)) {
            return UNKNOWN;
        }
        for (int u = 1; u <= 60; u++) {
            for (int v = 1; v <= 60; v++) {
                Set<Integer> unlike = new HashSet<>();
                for (int[] row : rows(m, u, v)) {
                    for (int n : row) {
                        unlike.add(n);
                    }
                }
                if (unlike.size() == 9 && square(tongue, m, u, v) == 1) {
                    return 100 * u + v;
                }
            }
        }
        return NONE;
    }
}
