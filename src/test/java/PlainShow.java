import java.util.ArrayList;
import java.util.Arrays;
import java.util.HashMap;
import java.util.HashSet;
import java.util.List;
import java.util.Map;
import java.util.Set;
import java.util.TreeSet;
import java.util.regex.Matcher;
import java.util.regex.Pattern;

/**
 * The document once more, written in other ways than CattleShow so that both hardly err alike:
 * rows are tried one by one, texts are kept as texts and read by patterns.
 */
final class PlainShow {
    private static final String CLAUSE = "(?:b[0-9]{1,4}|[ft][0-9]{1,4}|m[0-9][<>][0-9]{1,4})";
    private static final Pattern TEXT = Pattern.compile("(?:" + CLAUSE + "(?:;" + CLAUSE + ")*)?");
    private static final String PAIR = "[a-h]>[a-h]:(?:-?[0-2]){1,4}";
    private static final Pattern REASONS = Pattern.compile(PAIR + "(?:;" + PAIR + ")*");

    private final List<int[]> beasts = new ArrayList<>();
    private final String[] texts = {"", "", "", "", "", ""};
    private final List<Set<Integer>> entered = new ArrayList<>();
    private final List<Set<Integer>> out = new ArrayList<>();
    private final List<Map<Integer, List<Integer>>> orders = new ArrayList<>();
    private final int[][] cuts = new int[6][];
    private final Set<String> barred = new HashSet<>();
    private final List<List<Integer>> joined = new ArrayList<>();
    private String tape = "";
    private int sand = 2;

    PlainShow() {
        for (int c = 0; c < 6; c++) {
            entered.add(new TreeSet<>());
            out.add(new TreeSet<>());
            orders.add(new HashMap<>());
            joined.add(null);
            cuts[c] = new int[] {0, 3, 3, 3};
        }
    }

    private static boolean in(int n, int low, int high) {
        return low <= n && n <= high;
    }

    private boolean isClass(int c) {
        return in(c, 0, 5);
    }

    private boolean isBeast(int b) {
        return in(b, 0, beasts.size() - 1);
    }

    private String takeTape() {
        String all = tape;
        tape = "";
        return all;
    }

    Set<Integer> enteredIn(int c) {
        return entered.get(c);
    }

    String tape() {
        return tape;
    }

    int feed(int... words) {
        if (tape.length() > 60) {
            return -1;
        }
        StringBuilder longer = new StringBuilder(tape);
        for (int word : words) {
            for (int i = 3; i >= 0; i--) {
                longer.append((char) (word >> 8 * i & 255));
            }
        }
        tape = longer.toString();
        return tape.length();
    }

    /** The place of the first byte that no text goes on with; the length if all could go on or end, but does not end. */
    private static int misplaced(Pattern grammar, String text) {
        for (int n = 1; n <= text.length(); n++) {
            Matcher matcher = grammar.matcher(text.substring(0, n));
            if (!matcher.matches() && !matcher.hitEnd()) {
                return n - 1;
            }
        }
        return grammar.matcher(text).matches() ? Integer.MAX_VALUE : text.length();
    }

    private static int faultOfText(String text) {
        int end = misplaced(TEXT, text);
        int clause = 0;
        int start = 0;
        for (int i = 0; i < Math.min(end, text.length()); i++) {
            char ch = text.charAt(i);
            if (ch == ';') {
                clause++;
                start = i + 1;
                continue;
            }
            if (i == start && clause == 8) {
                return 300 + i;
            }
            char letter = text.charAt(start);
            if (i > start && letter == 'b' && ch > '3' || i == start + 1 && letter == 'm' && ch > '2') {
                return 200 + i;
            }
        }
        return end == Integer.MAX_VALUE ? 0 : 100 + end;
    }

    int text(int c, int n) {
        if (!isClass(c) || !in(n, 0, tape.length())) {
            return -1;
        }
        String text = takeTape().substring(0, n);
        int fault = faultOfText(text);
        if (fault == 0) {
            texts[c] = text;
        }
        return fault;
    }

    int beast(int breed, int age, int sire, int handler) {
        if (!in(breed, 0, 3) || !in(age, 0, 200) || !in(sire, 0, 9) || !in(handler, 0, 9) || beasts.size() == 20) {
            return -1;
        }
        beasts.add(new int[] {breed, age, sire, handler, 0, 0, 0});
        return beasts.size() - 1;
    }

    boolean measure(int b, int m, int n) {
        if (!isBeast(b) || !in(m, 0, 2) || !in(n, 0, 99)) {
            return false;
        }
        beasts.get(b)[4 + m] = n;
        return true;
    }

    private static boolean holds(String clause, int[] beast) {
        switch (clause.charAt(0)) {
            case 'b':
                return clause.substring(1).contains(String.valueOf(beast[0]));
            case 'f':
                return beast[1] >= Integer.parseInt(clause.substring(1));
            case 't':
                return beast[1] <= Integer.parseInt(clause.substring(1));
            default:
                int has = beast[4 + clause.charAt(1) - '0'];
                int n = Integer.parseInt(clause.substring(3));
                return clause.charAt(2) == '>' ? has > n : has < n;
        }
    }

    int lets(int c, int b) {
        if (!isClass(c) || !isBeast(b)) {
            return -1;
        }
        for (String clause : texts[c].isEmpty() ? new String[0] : texts[c].split(";")) {
            if (!holds(clause, beasts.get(b))) {
                return 0;
            }
        }
        return 1;
    }

    boolean enter(int c, int b) {
        if (lets(c, b) != 1 || entered.get(c).size() == 8 || out.get(c).contains(b) || !entered.get(c).add(b)) {
            return false;
        }
        orders.get(c).clear();
        joined.set(c, null);
        return true;
    }

    boolean protest(int c, int b) {
        if (!isClass(c) || !entered.get(c).remove(b)) {
            return false;
        }
        out.get(c).add(b);
        for (List<Integer> row : orders.get(c).values()) {
            row.remove((Integer) b);
        }
        joined.set(c, null);
        return true;
    }

    boolean bar(int j, int b) {
        return in(j, 0, 5) && isBeast(b) && barred.add(j + " " + b);
    }

    private List<Integer> rowOf(String bytes, int n) {
        List<Integer> row = new ArrayList<>();
        for (int i = 0; i < n; i++) {
            row.add((int) bytes.charAt(i));
        }
        return row;
    }

    boolean order(int j, int c) {
        if (!in(j, 0, 5) || !isClass(c) || entered.get(c).isEmpty() || tape.length() < entered.get(c).size()) {
            return false;
        }
        List<Integer> row = rowOf(takeTape(), entered.get(c).size());
        for (int b : entered.get(c)) {
            if (barred.contains(j + " " + b)) {
                return false;
            }
        }
        if (!new TreeSet<>(row).equals(entered.get(c))) {
            return false;
        }
        orders.get(c).put(j, row);
        joined.set(c, null);
        return true;
    }

    private int ordersWithAhead(int c, int a, int b) {
        int sum = 0;
        for (List<Integer> row : orders.get(c).values()) {
            if (row.indexOf(a) < row.indexOf(b)) {
                sum++;
            }
        }
        return sum;
    }

    private int swapsOf(int c, List<Integer> row) {
        int sum = 0;
        for (int i = 0; i < row.size(); i++) {
            for (int k = i + 1; k < row.size(); k++) {
                sum += ordersWithAhead(c, row.get(k), row.get(i));
            }
        }
        return sum;
    }

    private List<Integer> joinedOf(int c) {
        if (joined.get(c) == null) {
            List<Integer> all = new ArrayList<>(entered.get(c));
            int[][] against = new int[20][20];
            for (int a : all) {
                for (int b : all) {
                    against[a][b] = ordersWithAhead(c, b, a);
                }
            }
            List<Integer> best = new ArrayList<>();
            tryRows(all, against, new ArrayList<>(), 0, new int[] {Integer.MAX_VALUE}, best);
            joined.set(c, best);
        }
        return joined.get(c);
    }

    /** All rows in rising order; only one with fewer swaps takes the place of one found before. */
    private static void tryRows(List<Integer> all, int[][] against, List<Integer> row, int cost, int[] least,
            List<Integer> best) {
        if (cost >= least[0]) {
            return;
        }
        if (row.size() == all.size()) {
            least[0] = cost;
            best.clear();
            best.addAll(row);
            return;
        }
        for (int b : all) {
            if (!row.contains(b)) {
                int more = 0;
                for (int before : row) {
                    more += against[before][b];
                }
                row.add(b);
                tryRows(all, against, row, cost + more, least, best);
                row.remove(row.size() - 1);
            }
        }
    }

    int placed(int c, int place) {
        return isClass(c) && in(place, 1, entered.get(c).size()) ? joinedOf(c).get(place - 1) : -1;
    }

    int swaps(int c) {
        return isClass(c) ? swapsOf(c, joinedOf(c)) : -1;
    }

    private boolean beats(int c, int a, int b) {
        return ordersWithAhead(c, a, b) > ordersWithAhead(c, b, a);
    }

    int ring(int c, int what) {
        if (!isClass(c) || !in(what, 0, 2)) {
            return -1;
        }
        for (int x : entered.get(c)) {
            for (int y : entered.get(c)) {
                for (int z : entered.get(c)) {
                    if (beats(c, x, y) && beats(c, y, z) && beats(c, z, x)) {
                        return new int[] {x, y, z}[what];
                    }
                }
            }
        }
        return -1;
    }

    boolean cut(int c, int i, int n) {
        if (!isClass(c) || !in(i, 1, 3) || !in(n, 0, 15)) {
            return false;
        }
        cuts[c][i] = n;
        return true;
    }

    int card(int c) {
        if (!isClass(c) || entered.get(c).size() < 2 || tape.length() < Math.min(4, entered.get(c).size())) {
            return -1;
        }
        List<Integer> right = joinedOf(c).subList(0, Math.min(4, entered.get(c).size()));
        List<Integer> row = rowOf(takeTape(), right.size());
        if (!new TreeSet<>(row).equals(new TreeSet<>(right))) {
            return -1;
        }
        int points = 50;
        for (int p = 1; p <= right.size(); p++) {
            for (int q = p + 1; q <= right.size(); q++) {
                if (row.indexOf(right.get(p - 1)) > row.indexOf(right.get(q - 1))) {
                    points -= Arrays.stream(cuts[c], p, q).sum();
                }
            }
        }
        return Math.max(0, points);
    }

    private int faultOfReasons(String text, int places) {
        int end = misplaced(REASONS, text);
        int start = 0;
        for (int i = 0; i < Math.min(end, text.length()); i++) {
            if (text.charAt(i) == ';') {
                start = i + 1;
            } else if (i == start || i == start + 2) {
                int first = text.charAt(start);
                int here = text.charAt(i);
                if (here >= 'a' + places || i > start && here == first) {
                    return -200 - i;
                }
                if (here < first) {
                    return -300 - start;
                }
            }
        }
        return end == Integer.MAX_VALUE ? 0 : -100 - end;
    }

    int reasons(int c, int n) {
        if (!isClass(c) || !in(n, 0, tape.length())) {
            return -1;
        }
        String text = takeTape().substring(0, n);
        int fault = faultOfReasons(text, entered.get(c).size());
        if (fault != 0) {
            return fault;
        }
        int points = 0;
        for (String pair : text.split(";")) {
            int[] first = beasts.get(joinedOf(c).get(pair.charAt(0) - 'a'));
            int[] second = beasts.get(joinedOf(c).get(pair.charAt(2) - 'a'));
            Matcher term = Pattern.compile("(-?)([0-2])").matcher(pair.substring(4));
            while (term.find()) {
                int m = 4 + Integer.parseInt(term.group(2));
                boolean isTrue = term.group(1).isEmpty() ? first[m] > second[m] : second[m] > first[m];
                points += isTrue ? 2 : -1;
            }
        }
        return Math.max(0, points);
    }

    boolean sand(int n) {
        if (!in(n, 1, 3)) {
            return false;
        }
        sand = n;
        return true;
    }

    private boolean canBe(int[] hours, List<Set<Integer>> handlers) {
        for (int c = 0; c < 6; c++) {
            int together = 0;
            for (int d = 0; d < 6; d++) {
                if (hours[c] >= 0 && hours[c] == hours[d]) {
                    together++;
                    Set<Integer> both = new TreeSet<>(handlers.get(c));
                    both.retainAll(handlers.get(d));
                    if (c != d && !both.isEmpty()) {
                        return false;
                    }
                }
            }
            if (together > sand) {
                return false;
            }
        }
        return true;
    }

    private int[] hours() {
        List<Set<Integer>> handlers = new ArrayList<>();
        int rows = 1;
        for (Set<Integer> of : entered) {
            Set<Integer> set = new TreeSet<>();
            for (int b : of) {
                set.add(beasts.get(b)[3]);
            }
            handlers.add(set);
            rows *= of.isEmpty() ? 1 : 6;
        }
        int[] best = null;
        int bestLast = 6;
        for (int row = 0; row < rows; row++) {
            int[] hours = new int[6];
            int left = row;
            int last = -1;
            // The last class changes quickest, so that the rows rise class by class.
            for (int c = 5; c >= 0; c--) {
                hours[c] = handlers.get(c).isEmpty() ? -1 : left % 6;
                left = handlers.get(c).isEmpty() ? left : left / 6;
                last = Math.max(last, hours[c]);
            }
            if (last < bestLast && canBe(hours, handlers)) {
                best = hours;
                bestLast = last;
            }
        }
        return best;
    }

    int hour(int c) {
        return isClass(c) ? hours()[c] : -1;
    }

    int team(int sire) {
        List<Integer> places = new ArrayList<>();
        for (int b = 0; b < beasts.size(); b++) {
            int least = Integer.MAX_VALUE;
            for (int c = 0; c < 6; c++) {
                if (entered.get(c).contains(b)) {
                    least = Math.min(least, joinedOf(c).indexOf(b) + 1);
                }
            }
            if (beasts.get(b)[2] == sire && least < Integer.MAX_VALUE) {
                places.add(least);
            }
        }
        places.sort(null);
        return places.size() < 3 ? -1 : places.get(0) + places.get(1) + places.get(2);
    }

    int price(int b) {
        if (!isBeast(b)) {
            return -1;
        }
        int sum = 100;
        for (int c = 0; c < 6; c++) {
            if (entered.get(c).contains(b)) {
                sum += 50 / (joinedOf(c).indexOf(b) + 1);
            }
        }
        return sum;
    }

    int look(int b, int what) {
        if (!isBeast(b)) {
            return -1;
        }
        if (in(what, 0, 6)) {
            return beasts.get(b)[what];
        }
        if (what == 7) {
            return (int) entered.stream().filter(set -> set.contains(b)).count();
        }
        if (in(what, 10, 15) && entered.get(what - 10).contains(b)) {
            return joinedOf(what - 10).indexOf(b) + 1;
        }
        return -1;
    }

    int count(int what) {
        if (what == 0) {
            return beasts.size();
        }
        if (what == 1) {
            return sand;
        }
        if (what == 2) {
            return tape.length();
        }
        if (what == 3) {
            return Arrays.stream(hours()).max().getAsInt();
        }
        if (in(what, 10, 15)) {
            return entered.get(what - 10).size();
        }
        return in(what, 20, 25) ? orders.get(what - 20).size() : -1;
    }
}
