import java.util.ArrayList;
import java.util.Collections;
import java.util.List;
import java.util.Random;

/** Runs of drawn calls (the same ones each time) on a CattleShow and on a PlainShow: both must answer alike. */
final class PlainShowTest {
    private static final int RUNS = 300;
    private static final int CALLS = 512;
    private static final int[] STRANGE = {Integer.MIN_VALUE, -33, -2, -1, 6, 10, 20, 31, 32, 33, 64, 256, Integer.MAX_VALUE};

    private final Random random;
    private final CattleShow show = new CattleShow();
    private final PlainShow plain = new PlainShow();
    private final int run;
    /** Few CLASSES in some runs, so that these fill up and hear many ORDERS. */
    private final int classes;

    private PlainShowTest(int run) {
        this.run = run;
        this.random = new Random(run);
        this.classes = 1 + run % 6;
    }

    public static void main(String[] args) {
        for (int run = 0; run < RUNS; run++) {
            PlainShowTest test = new PlainShowTest(run);
            for (int call = 0; call < CALLS; call++) {
                test.step(call);
            }
        }
        Check.end("PlainShowTest");
    }

    private void due(String call, long got, long want) {
        Check.due("run " + run + ": " + call, got, want);
    }

    private void due(String call, boolean got, boolean want) {
        due(call, got ? 1 : 0, want ? 1 : 0);
    }

    /** Mostly a number below the bound, seldom a strange one. */
    private int draw(int bound) {
        return random.nextInt(40) == 0 ? STRANGE[random.nextInt(STRANGE.length)] : random.nextInt(bound);
    }

    private int drawClass() {
        return draw(classes);
    }

    private int drawBeast() {
        return draw(Math.max(1, plain.count(0)));
    }

    private void feed(int... bytes) {
        for (int from = 0; from < bytes.length; from += 20) {
            int[] words = new int[5];
            for (int i = 0; i < 5; i++) {
                words[i] = Tapes.word(bytes, from + 4 * i);
            }
            due("feed", show.feed(words[0], words[1], words[2], words[3], words[4]), plain.feed(words));
        }
    }

    /** Empties the tape most times, so that what is fed next stands first on it. */
    private void makeRoom() {
        if (plain.tape().isEmpty() || random.nextInt(20) == 0) {
            return;
        }
        due("reasons(0, 0)", show.reasons(0, 0), plain.reasons(0, 0));
    }

    private String drawClause() {
        String number = String.valueOf(random.nextInt(random.nextInt(8) == 0 ? 20000 : 120));
        switch (random.nextInt(5)) {
            case 0:
                StringBuilder breeds = new StringBuilder("b");
                int many = 1 + random.nextInt(random.nextInt(6) == 0 ? 5 : 4);
                for (int i = 0; i < many; i++) {
                    breeds.append(random.nextInt(random.nextInt(30) == 0 ? 10 : 4));
                }
                return breeds.toString();
            case 1:
                return "f" + number;
            case 2:
                return "t" + number;
            default:
                int m = random.nextInt(random.nextInt(30) == 0 ? 10 : 3);
                return "m" + m + (random.nextBoolean() ? ">" : "<") + number;
        }
    }

    private String drawPair() {
        int places = Math.max(2, random.nextInt(9));
        int first = random.nextInt(places);
        int second = random.nextInt(places);
        if (first > second && random.nextInt(10) != 0) {
            int kept = first;
            first = second;
            second = kept;
        }
        StringBuilder pair = new StringBuilder();
        pair.append((char) ('a' + first)).append('>').append((char) ('a' + second)).append(':');
        int terms = 1 + random.nextInt(random.nextInt(8) == 0 ? 5 : 4);
        for (int i = 0; i < terms; i++) {
            pair.append(random.nextInt(3) == 0 ? "-" : "").append(random.nextInt(random.nextInt(40) == 0 ? 4 : 3));
        }
        return pair.toString();
    }

    private String spoil(String text) {
        if (random.nextInt(3) != 0) {
            return text;
        }
        String letters = "bftm0123456789<>;:-abcdefghi x";
        StringBuilder other = new StringBuilder(text);
        int at = random.nextInt(text.length() + 1);
        String letter = String.valueOf(letters.charAt(random.nextInt(letters.length())));
        switch (random.nextInt(3)) {
            case 0:
                return other.insert(at, letter).toString();
            case 1:
                return at < text.length() ? other.deleteCharAt(at).toString() : text;
            default:
                return at < text.length() ? other.replace(at, at + 1, letter).toString() : text;
        }
    }

    private int feedText(boolean reasons) {
        makeRoom();
        int many = random.nextInt(8) == 0 ? 1 + random.nextInt(10) : 1 + random.nextInt(2);
        List<String> parts = new ArrayList<>();
        for (int i = 0; i < many; i++) {
            parts.add(reasons ? drawPair() : drawClause());
        }
        String text = spoil(String.join(";", parts));
        if (text.length() > 80) {
            text = text.substring(0, 80);
        }
        feed(Tapes.bytesOf(text));
        return random.nextInt(10) == 0 ? draw(Math.max(1, plain.count(2) + 2)) : text.length();
    }

    /** A row of those that are in the set, now and then with a wrong byte in it. */
    private void feedRow(List<Integer> of) {
        makeRoom();
        List<Integer> row = new ArrayList<>(of);
        // Some rows stay nearly sorted: joined orders with few ties come of these.
        if (random.nextBoolean()) {
            Collections.shuffle(row, random);
        } else if (row.size() > 1) {
            int at = random.nextInt(row.size() - 1);
            Collections.swap(row, at, at + 1);
        }
        int[] bytes = new int[Math.max(1, row.size())];
        for (int i = 0; i < row.size(); i++) {
            bytes[i] = row.get(i);
        }
        if (random.nextInt(8) == 0) {
            bytes[random.nextInt(bytes.length)] = random.nextInt(256);
        }
        if (random.nextInt(30) != 0) {
            feed(bytes);
        }
    }

    private List<Integer> firstPlaces(int c) {
        List<Integer> row = new ArrayList<>();
        for (int place = 1; place <= 4 && plain.placed(c, place) >= 0; place++) {
            row.add(plain.placed(c, place));
        }
        return row;
    }

    private List<Integer> enteredIn(int c) {
        return c >= 0 && c < 6 ? new ArrayList<>(plain.enteredIn(c)) : new ArrayList<>();
    }

    private void step(int call) {
        if (call < 60 && random.nextInt(3) == 0) {
            addBeast();
            return;
        }
        int kind = random.nextInt(100);
        if (kind < 40) {
            change(kind);
        } else {
            ask(kind);
        }
    }

    private void addBeast() {
        int breed = draw(4);
        int age = draw(201);
        int sire = draw(random.nextBoolean() ? 2 : 10);
        int handler = draw(10);
        due("beast", show.beast(breed, age, sire, handler), plain.beast(breed, age, sire, handler));
    }

    private void change(int kind) {
        int c = drawClass();
        int b = drawBeast();
        int j = draw(6);
        if (kind < 2) {
            int n = feedText(false);
            due("text", show.text(c, n), plain.text(c, n));
        } else if (kind < 4) {
            due("text", show.text(c, 0), plain.text(c, 0));
        } else if (kind < 6) {
            addBeast();
        } else if (kind < 12) {
            int m = draw(3);
            int n = draw(random.nextBoolean() ? 100 : 4);
            due("measure", show.measure(b, m, n), plain.measure(b, m, n));
        } else if (kind < 20) {
            due("enter", show.enter(c, b), plain.enter(c, b));
        } else if (kind < 21) {
            due("protest", show.protest(c, b), plain.protest(c, b));
        } else if (kind < 22) {
            due("bar", show.bar(j, b), plain.bar(j, b));
        } else if (kind < 36) {
            feedRow(enteredIn(c));
            due("order", show.order(j, c), plain.order(j, c));
        } else if (kind < 38) {
            int i = draw(5);
            int n = draw(17);
            due("cut", show.cut(c, i, n), plain.cut(c, i, n));
        } else {
            int n = draw(5);
            due("sand", show.sand(n), plain.sand(n));
        }
    }

    private void ask(int kind) {
        int c = drawClass();
        int b = drawBeast();
        if (kind < 46) {
            feedRow(firstPlaces(c));
            due("card", show.card(c), plain.card(c));
        } else if (kind < 52) {
            int n = feedText(true);
            due("reasons", show.reasons(c, n), plain.reasons(c, n));
        } else if (kind < 55) {
            int n = feedText(false);
            due("text of a class that is not shown", show.text(5, n), plain.text(5, n));
        } else if (kind < 60) {
            due("lets", show.lets(5, b), plain.lets(5, b));
        } else if (kind < 70) {
            int place = draw(10);
            due("placed", show.placed(c, place), plain.placed(c, place));
        } else if (kind < 75) {
            due("swaps", show.swaps(c), plain.swaps(c));
        } else if (kind < 80) {
            int what = draw(4);
            due("ring", show.ring(c, what), plain.ring(c, what));
        } else if (kind < 82) {
            due("hour", show.hour(c), plain.hour(c));
        } else if (kind < 86) {
            int sire = draw(random.nextBoolean() ? 2 : 10);
            due("team", show.team(sire), plain.team(sire));
        } else if (kind < 90) {
            due("price", show.price(b), plain.price(b));
        } else if (kind < 95) {
            int what = draw(17);
            due("look", show.look(b, what), plain.look(b, what));
        } else {
            int what = draw(27);
            due("count", show.count(what), plain.count(what));
        }
    }
}
