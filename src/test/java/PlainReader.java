import java.util.ArrayList;
import java.util.Arrays;
import java.util.List;
import java.util.TreeSet;
import java.util.regex.Matcher;
import java.util.regex.Pattern;

/** Reads a text a second time, in another way: parts by a pattern, elements as lists of numbers. */
final class PlainReader {
    private static final Pattern PART = Pattern.compile("[a-z]+|[0-9]+|[^ ]", Pattern.DOTALL);

    /** One FACTOR, as its letter and N. */
    private record Factor(char letter, int n) {
        int size() {
            return letter == 'a' ? 12 : letter == 'c' ? n : letter == 'd' ? 2 * n : 4 * n;
        }
    }

    private final List<String> parts = new ArrayList<>();
    private final List<Integer> places = new ArrayList<>();
    private final int length;
    private int at = 0;

    int fault = 0;
    int place = -1;
    final TreeSet<Integer> steps = new TreeSet<>();
    /** Elements, each by the numbers of its factors or by its images; null if the text tells no group. */
    List<List<Integer>> elements = null;
    private List<Factor> factors = null;
    private int order;
    private final int[][] heldTable;
    private boolean groupMayCome = true;

    PlainReader(String text, int[][] heldTable, TreeSet<Integer> heldSteps) {
        length = text.length();
        this.heldTable = heldTable;
        order = heldTable.length;
        steps.addAll(heldSteps);
        Matcher matcher = PART.matcher(text);
        while (matcher.find()) {
            parts.add(matcher.group());
            places.add(matcher.start());
        }
        while (fault == 0 && at < parts.size()) {
            line();
            if (fault == 0) {
                expect(";");
            }
        }
    }

    private String part() {
        return at < parts.size() ? parts.get(at) : "";
    }

    private int here() {
        return at < parts.size() ? places.get(at) : length;
    }

    private void fail(int found, int where) {
        if (fault == 0) {
            fault = found;
            place = where;
        }
    }

    private void expect(String regex) {
        if (part().matches(regex)) {
            at++;
        } else {
            fail(1, here());
        }
    }

    private void line() {
        String word = part();
        int where = here();
        expect(groupMayCome ? "group|perms|steps|both" : "steps|both");
        groupMayCome = false;
        if (fault != 0) {
            return;
        }
        switch (word) {
            case "group" -> group();
            case "perms" -> perms(where);
            case "steps" -> steps();
            default -> both();
        }
    }

    private int number(int least, int most) {
        int where = here();
        String digits = part();
        expect("[0-9]+");
        if (fault == 0 && (digits.length() > 2 || Integer.parseInt(digits) < least || Integer.parseInt(digits) > most)) {
            fail(2, where);
        }
        return fault == 0 ? Integer.parseInt(digits) : 0;
    }

    private void group() {
        factors = new ArrayList<>();
        steps.clear();
        order = 1;
        do {
            int where = here();
            String letter = part();
            expect("[acdq]");
            int n = 0;
            if (fault == 0 && !letter.equals("a")) {
                n = letter.equals("c") ? number(1, 20) : letter.equals("d") ? number(1, 10) : number(2, 5);
            }
            if (fault != 0) {
                return;
            }
            factors.add(new Factor(letter.charAt(0), n));
            order *= factors.get(factors.size() - 1).size();
            if (order > 20) {
                fail(3, where);
                return;
            }
        } while (part().equals("x") && at++ >= 0);
        elements = new ArrayList<>();
        for (int i = 0; i < order; i++) {
            List<Integer> numbers = new ArrayList<>();
            int rest = i;
            for (Factor factor : factors) {
                numbers.add(rest % factor.size());
                rest /= factor.size();
            }
            elements.add(numbers);
        }
    }

    private void perms(int where) {
        steps.clear();
        List<List<Integer>> rows = new ArrayList<>();
        do {
            int rowPlace = here();
            String digits = part();
            expect("[0-9]+");
            if (fault != 0) {
                return;
            }
            List<Integer> row = new ArrayList<>();
            digits.chars().forEach(c -> row.add(c - '0'));
            boolean isOrder = new TreeSet<>(row).size() == row.size() && row.stream().allMatch(i -> i < row.size());
            if (!isOrder || row.size() < 2 || row.size() > 8 || rows.size() > 0 && rows.get(0).size() != row.size()) {
                fail(2, rowPlace);
                return;
            }
            rows.add(row);
        } while (part().equals(",") && at++ >= 0);
        List<List<Integer>> found = new ArrayList<>();
        List<Integer> still = new ArrayList<>(rows.get(0));
        still.sort(null);
        found.add(still);
        for (int i = 0; i < found.size() && found.size() <= 20; i++) {
            for (List<Integer> row : rows) {
                List<Integer> next = then(found.get(i), row);
                if (!found.contains(next)) {
                    found.add(next);
                }
            }
        }
        if (found.size() > 20) {
            fail(3, where);
            return;
        }
        elements = found;
        factors = null;
        order = found.size();
    }

    private void steps() {
        TreeSet<Integer> told = new TreeSet<>();
        do {
            told.add(number(1, order - 1));
        } while (fault == 0 && part().matches("[0-9]+"));
        steps.clear();
        steps.addAll(told);
    }

    private void both() {
        int[][] table = table();
        TreeSet<Integer> more = new TreeSet<>();
        for (int s : steps) {
            for (int i = 0; i < order; i++) {
                if (table[i][s] == 0) {
                    more.add(i);
                }
            }
        }
        steps.addAll(more);
    }

    int[][] table() {
        if (elements == null) {
            return heldTable;
        }
        int[][] table = new int[order][order];
        for (int i = 0; i < order; i++) {
            for (int j = 0; j < order; j++) {
                table[i][j] = elements.indexOf(product(elements.get(i), elements.get(j)));
            }
        }
        return table;
    }

    String name(int element) {
        StringBuilder text = new StringBuilder();
        for (int number : elements.get(element)) {
            text.append(factors != null && text.length() > 0 ? "," : "").append(number);
        }
        return text.toString();
    }

    private List<Integer> product(List<Integer> first, List<Integer> second) {
        if (factors == null) {
            return then(first, second);
        }
        List<Integer> product = new ArrayList<>();
        for (int i = 0; i < factors.size(); i++) {
            product.add(product(factors.get(i), first.get(i), second.get(i)));
        }
        return product;
    }

    private static int product(Factor factor, int x, int y) {
        int n = factor.n;
        switch (factor.letter) {
            case 'c':
                return (x + y) % n;
            case 'd':
                return turned(x % n, x / n, y % n, y / n, n, 0);
            case 'q':
                return turned(x % (2 * n), x / (2 * n), y % (2 * n), y / (2 * n), 2 * n, n);
            default:
                return EVEN.indexOf(then(EVEN.get(x), EVEN.get(y)));
        }
    }

    private static int turned(int r, int f, int s, int g, int by, int more) {
        int turn = (f == 0 ? r + s : r + by - s) + (f == 1 && g == 1 ? more : 0);
        return turn % by + by * (f ^ g);
    }

    private static List<Integer> then(List<Integer> first, List<Integer> second) {
        List<Integer> row = new ArrayList<>();
        first.forEach(i -> row.add(second.get(i)));
        return row;
    }

    /** Rows of images whose pairs that stand the wrong way round are even in number. */
    private static final List<List<Integer>> EVEN = evenOrders();

    private static List<List<Integer>> evenOrders() {
        List<List<Integer>> rows = new ArrayList<>();
        for (int number = 0; number < 256; number++) {
            List<Integer> row = Arrays.asList(number >> 6, number >> 4 & 3, number >> 2 & 3, number & 3);
            int wrong = 0;
            for (int i = 0; i < 4; i++) {
                for (int j = 0; j < i; j++) {
                    wrong += row.get(j) > row.get(i) ? 1 : 0;
                }
            }
            if (new TreeSet<>(row).size() == 4 && wrong % 2 == 0) {
                rows.add(row);
            }
        }
        return rows;
    }
}
