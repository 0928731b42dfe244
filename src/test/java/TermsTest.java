/**
 * The chapter 'Terms' of the document, sentence by sentence: the last that is still taken and the first that is not,
 * the empty and the full one. (What can stand in a TEXT and in REASONS: GrammarTest.)
 */
final class TermsTest {
    private static final int[] NUMBERS = {0, 1, 2, 9, 10, 11, 98, 99, 100, 101, 199, 200, 201, 255, 256, 999, 1000, 9999};

    private TermsTest() {
    }

    public static void main(String[] args) {
        calls();
        beasts();
        kindsOfBeasts();
        measures();
        classes();
        breedsOfText();
        agesOfText();
        measuresOfText();
        allClauses();
        entered();
        enteredStays();
        protests();
        barredJudges();
        rowsOfOrders();
        ordersUntilEntered();
        ordersAfterProtests();
        joinedOrder();
        fullClass();
        rings();
        cuts();
        cards();
        pointsOfCards();
        pointsOfReasons();
        sand();
        hours();
        teams();
        prices();
        ownMemory();
        Check.end("TermsTest");
    }

    private static void calls() {
        Check.about("An object is used for at most 512 calls after it has been made");
        CattleShow show = new CattleShow();
        show.beast(0, 0, 0, 0);
        show.beast(0, 0, 0, 0);
        show.enter(0, 0);
        show.enter(0, 1);
        for (int calls = 4; calls < 508; calls += 2) {
            int first = calls / 2 % 2;
            show.feed(first << 24 | 1 - first << 16, 0, 0, 0, 0);
            Check.due("order as call " + (calls + 2), show.order(calls / 4 % 6, 0), true);
        }
        Check.due("call 509", show.count(20), 6);
        Check.due("call 510", show.feed(0, 0, 0, 0, 0), 20);
        Check.due("call 511", show.text(0, 0), 0);
        Check.due("call 512", show.count(2), 0);
    }

    private static void beasts() {
        Check.about("BEASTS 0 to 19");
        for (int beasts = 0; beasts <= 20; beasts++) {
            CattleShow show = Shows.of(beasts);
            Check.due("how many", show.count(0), beasts);
            Check.due("the last", show.price(beasts - 1), beasts == 0 ? -1 : 100);
            Check.due("behind the last", show.price(beasts), -1);
            Check.due("one more", show.beast(0, 0, 0, 0), beasts == 20 ? -1 : beasts);
        }
        CattleShow show = Shows.of(20);
        Check.due("measure of the last", show.measure(19, 2, 9), true);
        Check.due("its measure", show.look(19, 6), 9);
        Check.due("lets the last", show.lets(5, 19), 1);
        Check.due("enters the last", show.enter(5, 19), true);
        Check.due("order of the last", Tapes.order(show, 5, 5, 19), true);
        Check.due("bars from the last", show.bar(5, 19), true);
        Shows.dueRow("the last", show, 5, 19);
        show.enter(5, 18);
        Check.due("card of the last", Tapes.card(show, 5, 19, 18), 47);
        Check.due("protest against the last", show.protest(5, 19), true);
    }

    private static void kindsOfBeasts() {
        Check.about("each of a BREED (0 to 3), an AGE in months (0 to 200), a SIRE (0 to 9), a HANDLER (0 to 9)");
        Ranges.due("breed", 0, 3, n -> isKept(0, n, n, 200, 9, 9));
        Ranges.due("age", 0, 200, n -> isKept(1, n, 3, n, 9, 9));
        Ranges.due("sire", 0, 9, n -> isKept(2, n, 3, 200, n, 9));
        Ranges.due("handler", 0, 9, n -> isKept(3, n, 3, 200, 9, n));
    }

    private static boolean isKept(int what, int n, int breed, int age, int sire, int handler) {
        CattleShow show = new CattleShow();
        int b = show.beast(breed, age, sire, handler);
        Check.due("beasts there", show.count(0), b + 1);
        return b == 0 && show.look(0, what) == n;
    }

    private static void measures() {
        Check.about("three MEASURES (0 to 99 each)");
        Ranges.due("measure", 0, 2, m -> isMeasured(m, 99));
        for (int m = 0; m < 3; m++) {
            int measure = m;
            Ranges.due("height of measure " + m, 0, 99, n -> isMeasured(measure, n));
        }
    }

    private static boolean isMeasured(int m, int n) {
        CattleShow show = Shows.of(1);
        boolean taken = show.measure(0, m, n);
        for (int k = 0; k < 3; k++) {
            Check.due("measure " + k, show.look(0, 4 + k), taken && k == m ? n : 0);
        }
        return taken;
    }

    private static void classes() {
        Check.about("CLASSES 0 to 5, each with a TEXT");
        Ranges.due("class", 0, 5, c -> Tapes.text(new CattleShow(), c, "b0") == 0);
        CattleShow show = Shows.of(6);
        for (int c = 0; c < 6; c++) {
            Check.due("text", Tapes.text(show, c, "f" + 10 * c + ";t" + 10 * c), 0);
        }
        for (int c = 0; c < 6; c++) {
            for (int b = 0; b < 6; b++) {
                Check.due("class " + c + " lets " + b, show.lets(c, b), b == c ? 1 : 0);
            }
        }
    }

    private static void breedsOfText() {
        Check.about("b and BREEDS (digits 0 to 3, one to four)");
        String[] texts = {"b0", "b1", "b2", "b3", "b03", "b12", "b012", "b123", "b0123", "b3210", "b0000", "b3333"};
        for (String text : texts) {
            CattleShow show = Shows.of(4);
            Tapes.text(show, 0, text);
            for (int breed = 0; breed < 4; breed++) {
                int want = text.indexOf('0' + breed) >= 0 ? 1 : 0;
                Check.due(text + " lets breed " + breed, show.lets(0, breed), want);
            }
        }
    }

    private static void agesOfText() {
        int[] ages = {0, 1, 2, 8, 9, 10, 11, 12, 97, 98, 99, 100, 101, 102, 198, 199, 200};
        for (int n : NUMBERS) {
            for (int age : ages) {
                Check.about("f and a number: AGE that many months at least");
                dueLets("f" + n, age, 0, age >= n);
                Check.about("t and a number: at most");
                dueLets("t" + n, age, 0, age <= n);
            }
        }
        Check.about("Numbers have one to four digits");
        dueLets("f0010", 9, 0, false);
        dueLets("f0010", 10, 0, true);
        dueLets("t010", 10, 0, true);
        dueLets("t010", 11, 0, false);
        dueLets("f0000", 0, 0, true);
        dueLets("t00", 0, 0, true);
    }

    /** One BEAST of that AGE whose MEASURES are all the same. */
    private static void dueLets(String text, int age, int measure, boolean want) {
        CattleShow show = new CattleShow();
        show.beast(2, age, 0, 0);
        for (int m = 0; m < 3; m++) {
            show.measure(0, m, measure);
        }
        Check.due("text '" + text + "'", Tapes.text(show, 0, text), 0);
        Check.due("'" + text + "' lets in age " + age + ", measures " + measure, show.lets(0, 0), want ? 1 : 0);
        Check.due("'" + text + "', entered", show.enter(0, 0), want);
    }

    private static void measuresOfText() {
        Check.about("m, a MEASURE (0 to 2), > or <, and a number: that MEASURE is above, below it");
        int[] measures = {0, 1, 2, 8, 9, 10, 11, 12, 97, 98, 99};
        for (int n : NUMBERS) {
            for (int measure : measures) {
                for (int m = 0; m < 3; m++) {
                    dueLets("m" + m + ">" + n, 0, measure, measure > n);
                    dueLets("m" + m + "<" + n, 0, measure, measure < n);
                }
            }
        }
        dueLets("m0>0009", 0, 9, false);
        dueLets("m0>0009", 0, 10, true);
        for (int m = 0; m < 3; m++) {
            CattleShow show = Shows.of(1);
            show.measure(0, m, 50);
            for (int asked = 0; asked < 3; asked++) {
                Tapes.text(show, 0, "m" + asked + ">49");
                Check.due("measure " + asked + " of measure " + m, show.lets(0, 0), asked == m ? 1 : 0);
            }
        }
    }

    private static void allClauses() {
        Check.about("All CLAUSES must hold (of b, f, t too; an empty TEXT lets all in)");
        dueLets("", 0, 0, true);
        dueLets("", 200, 99, true);
        dueLets("b2;b2", 0, 0, true);
        dueLets("b2;b0", 0, 0, false);
        dueLets("b0;b2", 0, 0, false);
        dueLets("b02;b12", 0, 0, true);
        dueLets("b01;b23", 0, 0, false);
        dueLets("f10;f20", 19, 0, false);
        dueLets("f20;f10", 19, 0, false);
        dueLets("f20;f10", 20, 0, true);
        dueLets("t10;t20", 11, 0, false);
        dueLets("t20;t10", 11, 0, false);
        dueLets("t20;t10", 10, 0, true);
        dueLets("m1>10;m1>20", 0, 20, false);
        dueLets("m1>20;m1>10", 0, 20, false);
        dueLets("m1<20;m1<10", 0, 10, false);
        dueLets("m1<10;m1<20", 0, 10, false);
        dueLets("m1>9;m1<11", 0, 10, true);
        dueLets("m1>10;m1<10", 0, 10, false);
        dueLets("f10;t10", 10, 0, true);
        dueLets("f11;t10", 10, 0, false);
        String seven = "b2;f5;t5;m0>6;m1>6;m2>6;m0<8";
        dueLets(seven + ";m1<8", 5, 7, true);
        dueLets(seven + ";m1<7", 5, 7, false);
        dueLets("b1" + seven.substring(2) + ";m1<8", 5, 7, false);
    }

    private static void entered() {
        Check.about("8 at most in one CLASS; in as many CLASSES as one likes");
        CattleShow show = Shows.of(20);
        for (int c = 0; c < 6; c++) {
            for (int b = 0; b < 20; b++) {
                Check.due("enter " + b + " in " + c, show.enter(c, 19 - b), b < 8);
            }
            Check.due("entered in " + c, show.count(10 + c), 8);
            Check.due("classes of one", show.look(19, 7), c + 1);
        }
        Check.due("a protest makes room", show.protest(3, 19), true);
        Check.due("not for who is out", show.enter(3, 19), false);
        Check.due("for another", show.enter(3, 0), true);
        Check.due("for one alone", show.enter(3, 1), false);
        Check.due("eight again", show.count(13), 8);
    }

    private static void enteredStays() {
        Check.about("A BEAST is ENTERED in a CLASS if its TEXT lets it in then; it stays if the TEXT is changed later");
        CattleShow show = Shows.of(3);
        Tapes.text(show, 0, "f10");
        Check.due("one month too young", show.enter(0, 0), false);
        Check.due("let in", show.enter(0, 1), true);
        Check.due("let in", show.enter(0, 2), true);
        Tapes.order(show, 0, 0, 2, 1);
        Tapes.text(show, 0, "t0");
        Check.due("not let in any more", show.lets(0, 1), 0);
        Shows.dueRow("stay", show, 0, 2, 1);
        Check.due("the order counts", show.count(20), 1);
        Check.due("let in by the new text", show.enter(0, 0), true);
        Tapes.text(show, 1, "m0>5");
        show.measure(1, 0, 6);
        Check.due("measured above", show.enter(1, 1), true);
        show.measure(1, 0, 5);
        Check.due("stays with another measure", show.look(1, 11), 1);
    }

    private static void protests() {
        Check.about("A PROTEST takes a BEAST out of a CLASS for good (it is not ENTERED any more, and can't be again)");
        CattleShow show = Shows.of(9);
        Shows.enterAll(show, 0, 0, 1, 2, 3, 4, 5, 6, 7);
        Shows.enterAll(show, 1, 0);
        for (int b = 0; b < 8; b++) {
            Check.due("protest against " + b, show.protest(0, b), true);
            Check.due("entered", show.count(10), 7 - b);
            Check.due("place", show.look(b, 10), -1);
            Check.due("a second protest", show.protest(0, b), false);
        }
        Tapes.text(show, 0, "");
        for (int b = 0; b < 8; b++) {
            Check.due("let in", show.lets(0, b), 1);
            Check.due("not again", show.enter(0, b), false);
        }
        Check.due("another", show.enter(0, 8), true);
        Check.due("not in another class", show.look(0, 11), 1);
        Check.due("a class where it was not", show.protest(1, 1), false);
        Check.due("can be entered there", show.enter(1, 1), true);
    }

    private static void barredJudges() {
        Check.about("JUDGES 0 to 5, BARRED from BEASTS as told");
        Ranges.due("judge of an order", 0, 5, j -> Tapes.order(Shows.withClass(1), j, 0, 0));
        Ranges.due("judge to bar", 0, 5, j -> Shows.of(1).bar(j, 0));
        Check.about("a JUDGE that is BARRED from one of them can tell none");
        for (int b = 0; b < 8; b++) {
            CattleShow show = Shows.withClass(8);
            show.bar(3, b);
            Check.due("barred from " + b, Tapes.order(show, 3, 0, 0, 1, 2, 3, 4, 5, 6, 7), false);
            Check.due("another judge", Tapes.order(show, 2, 0, 0, 1, 2, 3, 4, 5, 6, 7), true);
            show.protest(0, b);
            int[] left = new int[7];
            for (int i = 0; i < 7; i++) {
                left[i] = i < b ? i : i + 1;
            }
            Check.due("once " + b + " is out", Tapes.order(show, 3, 0, left), true);
        }
        CattleShow show = Shows.of(20);
        show.enter(0, 0);
        for (int b = 1; b < 20; b++) {
            show.bar(0, b);
        }
        Check.due("barred from all others", Tapes.order(show, 0, 0, 0), true);
        show.enter(0, 19);
        Check.due("barred from one", Tapes.order(show, 0, 0, 0, 19), false);
    }

    private static void rowsOfOrders() {
        Check.about("a row of all that are ENTERED in it, each once, the best first");
        for (int size = 1; size <= 8; size++) {
            int[] row = new int[size];
            for (int i = 0; i < size; i++) {
                row[i] = size - 1 - i;
            }
            CattleShow show = Shows.withClass(size);
            Check.due("row of " + size, Tapes.order(show, 0, 0, row), true);
            Shows.dueRow("row of " + size, show, 0, row);
            for (int i = 0; i < size; i++) {
                int right = row[i];
                for (int wrong : new int[] {size, 19, 20, 31, 32 + right, 64 + right, 128 + right, 224 + right, 255}) {
                    row[i] = wrong;
                    Check.due(wrong + " in a row of " + size, Tapes.order(show, 0, 0, row), false);
                }
                if (size > 1) {
                    row[i] = row[(i + 1) % size];
                    Check.due("one twice in a row of " + size, Tapes.order(show, 0, 0, row), false);
                }
                row[i] = right;
            }
            Shows.dueRow("the former", show, 0, row);
        }
    }

    private static void ordersUntilEntered() {
        Check.about("It counts as long as nothing is ENTERED in the CLASS more");
        CattleShow show = Shows.of(20);
        Shows.enterAll(show, 0, 0, 1, 2);
        Shows.enterAll(show, 1, 0, 1);
        show.protest(0, 2);
        for (int j = 0; j < 6; j++) {
            Check.due("orders", show.count(20), j);
            Tapes.order(show, j, 0, 1, 0);
        }
        Tapes.order(show, 0, 1, 1, 0);
        Tapes.text(show, 0, "f40");
        Check.due("it is", show.enter(0, 0), false);
        Check.due("it is out", show.enter(0, 2), false);
        Check.due("it is not let in", show.enter(0, 3), false);
        Check.due("there is none such", show.enter(0, 20), false);
        Check.due("all count", show.count(20), 6);
        Check.due("in another class", show.enter(2, 4), true);
        Check.due("all count", show.count(20), 6);
        Check.due("one more", show.enter(0, 4), true);
        Check.due("none counts", show.count(20), 0);
        Check.due("of another class", show.count(21), 1);
        Shows.dueRow("by numbers", show, 0, 0, 1, 4);
        Check.due("out again", show.protest(0, 4), true);
        Check.due("none counts again", show.count(20), 0);
        Shows.dueRow("by numbers", show, 0, 0, 1);
        Check.due("a new order", Tapes.order(show, 5, 0, 1, 0), true);
        Check.due("it counts", show.count(20), 1);
    }

    private static void ordersAfterProtests() {
        Check.about("who is out by a PROTEST is left out of it (it counts still, even if none is left in it)");
        CattleShow show = Shows.of(9);
        Shows.enterAll(show, 0, 0, 1, 2, 3, 4, 5, 6, 7);
        Tapes.order(show, 0, 0, 7, 6, 5, 4, 3, 2, 1, 0);
        Tapes.order(show, 1, 0, 7, 6, 5, 4, 3, 2, 0, 1);
        show.protest(0, 7);
        Shows.dueRow("without the first", show, 0, 6, 5, 4, 3, 2, 0, 1);
        show.protest(0, 4);
        Shows.dueRow("without a middle one", show, 0, 6, 5, 3, 2, 0, 1);
        show.protest(0, 0);
        Shows.dueRow("without a last one", show, 0, 6, 5, 3, 2, 1);
        Check.due("swaps", show.swaps(0), 0);
        Check.due("two count", show.count(20), 2);
        Shows.protestAll(show, 0, 1, 2, 3, 5);
        Shows.dueRow("one is left", show, 0, 6);
        Check.due("two count", show.count(20), 2);
        show.protest(0, 6);
        Shows.dueRow("none is left", show, 0);
        Check.due("none is entered", show.count(10), 0);
        Check.due("two count still", show.count(20), 2);
        Check.due("swaps", show.swaps(0), 0);
        Check.due("no ring", show.ring(0, 0), -1);
        show.bar(0, 8);
        Check.due("two count still", show.count(20), 2);
        Check.due("another one", show.enter(0, 8), true);
        Check.due("none counts any more", show.count(20), 0);
    }

    private static void joinedOrder() {
        Check.about("THE JOINED ORDER: the row with fewest SWAPS, of like ones the least, BEAST by BEAST");
        CattleShow show = Shows.of(20);
        Shows.enterAll(show, 0, 19, 2, 11);
        Check.about("(Without ORDERS: by numbers.) PLACES are by it, from 1 on");
        Shows.dueRow("no orders", show, 0, 2, 11, 19);
        Check.due("swaps", show.swaps(0), 0);
        Check.about("THE JOINED ORDER: the row with fewest SWAPS, of like ones the least, BEAST by BEAST");
        Tapes.order(show, 0, 0, 19, 11, 2);
        Shows.dueRow("one order", show, 0, 19, 11, 2);
        Check.due("swaps", show.swaps(0), 0);
        Tapes.order(show, 1, 0, 2, 19, 11);
        Shows.dueRow("two orders, 2 first is like 2 last", show, 0, 2, 19, 11);
        Check.due("swaps", show.swaps(0), 2);
        Tapes.order(show, 2, 0, 11, 2, 19);
        Shows.dueRow("three orders in a ring", show, 0, 2, 19, 11);
        Check.due("swaps", show.swaps(0), 4);
        Tapes.order(show, 2, 0, 11, 19, 2);
        Shows.dueRow("one told anew", show, 0, 19, 11, 2);
        Check.due("swaps", show.swaps(0), 3);
        Shows.dueRow("an empty class", show, 5);
        Check.due("swaps of an empty class", show.swaps(5), 0);
        show.enter(5, 19);
        Shows.dueRow("one alone", show, 5, 19);
        Check.due("swaps of one alone", show.swaps(5), 0);
    }

    private static void fullClass() {
        Check.about("SWAPS of a row of all that are ENTERED: over the ORDERS of the CLASS that count the number of twos "
                + "that stand the other way round");
        CattleShow show = Shows.of(20);
        Shows.enterAll(show, 0, 12, 13, 14, 15, 16, 17, 18, 19);
        for (int j = 0; j < 6; j++) {
            if (j % 2 == 0) {
                Tapes.order(show, j, 0, 19, 18, 17, 16, 15, 14, 13, 12);
            } else {
                Tapes.order(show, j, 0, 12, 13, 14, 15, 16, 17, 18, 19);
            }
            Check.due("swaps of " + (j + 1) + " orders", show.swaps(0), 28 * ((j + 1) / 2));
            Check.due("first of " + (j + 1) + " orders", show.placed(0, 1), j % 2 == 0 ? 19 : 12);
            Check.due("last of " + (j + 1) + " orders", show.placed(0, 8), j % 2 == 0 ? 12 : 19);
        }
        Tapes.order(show, 5, 0, 12, 13, 14, 15, 16, 17, 19, 18);
        Shows.dueRow("one two by most", show, 0, 12, 13, 14, 15, 16, 17, 19, 18);
        Check.due("swaps", show.swaps(0), 27 * 3 + 2);
    }

    private static void rings() {
        Check.about("each of which stands ahead of the next one (c of a) in more ORDERS that count than behind");
        CattleShow show = Shows.of(20);
        dueRing(show, -1, -1, -1);
        Shows.enterAll(show, 0, 12, 13, 14, 15, 16, 17, 18, 19);
        dueRing(show, -1, -1, -1);
        Tapes.order(show, 0, 0, 12, 13, 14, 15, 16, 17, 18, 19);
        Tapes.order(show, 1, 0, 12, 13, 14, 15, 16, 18, 19, 17);
        dueRing(show, -1, -1, -1);
        Tapes.order(show, 2, 0, 12, 13, 14, 15, 16, 19, 17, 18);
        dueRing(show, 17, 18, 19);
        Check.about("the least row a, b, c");
        Tapes.order(show, 1, 0, 12, 13, 14, 16, 15, 18, 19, 17);
        dueRing(show, 17, 18, 19);
        Tapes.order(show, 0, 0, 14, 12, 13, 15, 16, 17, 18, 19);
        Tapes.order(show, 1, 0, 13, 14, 12, 15, 16, 18, 19, 17);
        dueRing(show, 12, 13, 14);
        show.protest(0, 13);
        dueRing(show, 17, 18, 19);
        Tapes.order(show, 3, 0, 14, 12, 15, 16, 18, 17, 19);
        Check.about("each of which stands ahead of the next one (c of a) in more ORDERS that count than behind");
        dueRing(show, -1, -1, -1);
        Tapes.order(show, 3, 0, 14, 12, 15, 16, 17, 18, 19);
        dueRing(show, -1, -1, -1);
        Tapes.order(show, 4, 0, 19, 17, 18, 14, 12, 15, 16);
        dueRing(show, 17, 18, 19);
        show.protest(0, 17);
        dueRing(show, -1, -1, -1);
        CattleShow other = Shows.withClass(3);
        Tapes.order(other, 3, 0, 2, 1, 0);
        Tapes.order(other, 4, 0, 1, 0, 2);
        Tapes.order(other, 5, 0, 0, 2, 1);
        dueRing(other, 0, 2, 1);
        other.beast(0, 0, 0, 0);
        other.enter(0, 3);
        dueRing(other, -1, -1, -1);
    }

    private static void dueRing(CattleShow show, int... ring) {
        for (int what = 0; what < 3; what++) {
            Check.due("ring " + what, show.ring(0, what), ring[what]);
        }
    }

    private static void cuts() {
        Check.about("CUTS of a CLASS, between its PLACES i and i + 1 (i from 1 to 3): 0 to 15; 3 at first");
        for (int c = 0; c < 6; c++) {
            CattleShow show = Shows.of(4);
            Shows.enterAll(show, c, 0, 1, 2, 3);
            Check.due("first cut", Tapes.card(show, c, 1, 0, 2, 3), 47);
            Check.due("second cut", Tapes.card(show, c, 0, 2, 1, 3), 47);
            Check.due("third cut", Tapes.card(show, c, 0, 1, 3, 2), 47);
        }
        Ranges.due("cut behind place", 1, 3, i -> isCut(i, 15));
        for (int i = 1; i <= 3; i++) {
            int place = i;
            Ranges.due("cut", 0, 15, n -> isCut(place, n));
        }
    }

    private static boolean isCut(int i, int n) {
        CattleShow show = Shows.withClass(8);
        boolean taken = show.cut(0, i, n);
        Check.due("first cut", Tapes.card(show, 0, 1, 0, 2, 3), taken && i == 1 ? 50 - n : 47);
        Check.due("second cut", Tapes.card(show, 0, 0, 2, 1, 3), taken && i == 2 ? 50 - n : 47);
        Check.due("third cut", Tapes.card(show, 0, 0, 1, 3, 2), taken && i == 3 ? 50 - n : 47);
        return taken;
    }

    private static void cards() {
        Check.about("A CARD is a row of the BEASTS of the first four PLACES (all, if there are fewer; two at least)");
        int[] backwards = {-1, -1, 50 - 3, 50 - 12, 50 - 30};
        for (int size = 0; size <= 8; size++) {
            CattleShow show = Shows.withClass(size);
            int places = Math.min(size, 4);
            Check.due("card of " + size, Tapes.card(show, 0, 0, 1, 2, 3), size < 2 ? -1 : 50);
            Check.due("tape behind a card of " + size, show.count(2), size < 2 ? 20 : 0);
            show.reasons(0, 0);
            int[] row = new int[4];
            for (int i = 0; i < 4; i++) {
                row[i] = i < places ? places - 1 - i : 255;
            }
            Check.due("backwards card of " + size, Tapes.card(show, 0, row), backwards[places]);
            show.reasons(0, 0);
            for (int i = 0; i < places; i++) {
                int right = row[i];
                for (int wrong : new int[] {places, 19, 20, 32 + right, 128 + right, 255, row[(i + 1) % places]}) {
                    row[i] = wrong;
                    Check.due(wrong + " on a card of " + size, Tapes.card(show, 0, row), -1);
                }
                row[i] = right;
            }
        }
    }

    private static int pointsOfBackwards(int... cuts) {
        CattleShow show = Shows.withClass(cuts.length + 1);
        int[] row = new int[cuts.length + 1];
        for (int i = 0; i < row.length; i++) {
            row[i] = cuts.length - i;
        }
        for (int i = 0; i < cuts.length; i++) {
            show.cut(0, i + 1, cuts[i]);
        }
        return Tapes.card(show, 0, row);
    }

    private static void pointsOfCards() {
        Check.about("its POINTS are 50 less, for each two that stand the other way round than in THE JOINED ORDER, "
                + "all CUTS between their PLACES; 0 at least");
        Check.due("nothing less", pointsOfBackwards(0, 0, 0), 50);
        Check.due("15 less", pointsOfBackwards(15), 35);
        Check.due("48 less", pointsOfBackwards(15, 9), 2);
        Check.due("50 less", pointsOfBackwards(15, 10), 0);
        Check.due("52 less", pointsOfBackwards(15, 11), 0);
        Check.due("49 less", pointsOfBackwards(6, 4, 5), 1);
        Check.due("50 less", pointsOfBackwards(7, 2, 7), 0);
        Check.due("51 less", pointsOfBackwards(8, 0, 9), 0);
        Check.due("150 less", pointsOfBackwards(15, 15, 15), 0);
        CattleShow show = Shows.withClass(5);
        show.cut(0, 1, 1);
        show.cut(0, 2, 2);
        show.cut(0, 3, 4);
        Tapes.order(show, 0, 0, 4, 3, 2, 1, 0);
        Check.due("by the joined order", Tapes.card(show, 0, 4, 3, 2, 1), 50);
        Check.due("first and fourth", Tapes.card(show, 0, 1, 3, 2, 4), 50 - 1 - 3 - 7 - 6 - 4);
        Check.due("the first last", Tapes.card(show, 0, 3, 2, 1, 4), 50 - 1 - 3 - 7);
        Check.due("the fourth first", Tapes.card(show, 0, 1, 4, 3, 2), 50 - 7 - 6 - 4);
    }

    /** PLACE 1 has MEASURES 99, 50, 0; PLACE 2 has 0, 50, 99. */
    private static void dueReasons(String text, int want) {
        CattleShow show = Shows.withClass(2);
        show.measure(0, 0, 99);
        show.measure(1, 2, 99);
        show.measure(0, 1, 50);
        show.measure(1, 1, 50);
        Check.due("reasons " + text, Tapes.reasons(show, 0, text), want);
    }

    private static void pointsOfReasons() {
        Check.about("A TERM is TRUE if it is so (alike: not)");
        dueReasons("a>b:00", 4);
        dueReasons("a>b:00-0", 3);
        dueReasons("a>b:001", 3);
        dueReasons("a>b:00-1", 3);
        dueReasons("a>b:002", 3);
        dueReasons("a>b:00-2", 6);
        Check.about("2 for each TRUE TERM, less 1 for each that is not (below 0: 0)");
        dueReasons("a>b:0", 2);
        dueReasons("a>b:01", 1);
        dueReasons("a>b:011", 0);
        dueReasons("a>b:0111", 0);
        dueReasons("a>b:1", 0);
        dueReasons("a>b:1110;a>b:0", 1);
        dueReasons("a>b:1111;a>b:00", 0);
        dueReasons("a>b:1111;a>b:000", 2);
        dueReasons("a>b:1111;a>b:1111;a>b:1111", 0);
        dueReasons("a>b:0-20-2;a>b:0-20-2", 16);
        Check.about("the first one has more of that MEASURE");
        CattleShow show = Shows.withClass(2);
        show.measure(1, 0, 98);
        int[] points = {0, 0, 2};
        for (int n = 97; n <= 99; n++) {
            show.measure(0, 0, n);
            Check.due("measure " + n + " against 98", Tapes.reasons(show, 0, "a>b:0"), points[n - 97]);
            Check.due("measure " + n + " against 98", Tapes.reasons(show, 0, "a>b:-0"), n < 98 ? 2 : 0);
        }
    }

    private static void sand() {
        Check.about("RINGS OF SAND (1 to 3; 2 at first)");
        Check.due("at first", new CattleShow().count(1), 2);
        Ranges.due("sand", 1, 3, TermsTest::isSand);
        Check.about("at most as many of one HOUR as there are RINGS OF SAND");
        CattleShow show = Shows.of(6);
        for (int c = 0; c < 6; c++) {
            show.enter(c, c);
        }
        Shows.dueHours(show, 0, 0, 1, 1, 2, 2);
        show.sand(1);
        Shows.dueHours(show, 0, 1, 2, 3, 4, 5);
        show.sand(3);
        Shows.dueHours(show, 0, 0, 0, 1, 1, 1);
        show.protest(1, 1);
        Shows.dueHours(show, 0, -1, 0, 0, 1, 1);
        show.protest(0, 0);
        show.protest(5, 5);
        Shows.dueHours(show, -1, -1, 0, 0, 0, -1);
    }

    private static boolean isSand(int n) {
        CattleShow show = new CattleShow();
        boolean taken = show.sand(n);
        Check.due("sand is", show.count(1), taken ? n : 2);
        return taken;
    }

    private static void hours() {
        Check.about("no two with BEASTS of one HANDLER");
        for (int handler = 0; handler < 10; handler++) {
            CattleShow show = new CattleShow();
            show.beast(0, 0, 0, handler);
            show.beast(0, 0, 0, handler);
            show.beast(0, 0, 0, (handler + 1) % 10);
            show.enter(0, 0);
            show.enter(1, 1);
            show.enter(2, 2);
            Shows.dueHours(show, 0, 1, 0, -1, -1, -1);
        }
        CattleShow third = Shows.of(10);
        third.sand(3);
        Shows.enterAll(third, 0, 0);
        Shows.enterAll(third, 1, 1);
        Shows.enterAll(third, 2, 2, 3, 4, 5, 6, 7, 8, 9);
        Shows.dueHours(third, 0, 0, 0, -1, -1, -1);
        third.protest(2, 9);
        Shows.enterAll(third, 2, 0);
        Shows.dueHours(third, 0, 0, 1, -1, -1, -1);
        third.protest(2, 0);
        Shows.enterAll(third, 2, 1);
        Shows.dueHours(third, 0, 0, 1, -1, -1, -1);
        third.protest(2, 1);
        Shows.dueHours(third, 0, 0, 0, -1, -1, -1);
        CattleShow same = Shows.of(8);
        for (int c = 0; c < 6; c++) {
            Shows.enterAll(same, c, 0, 1, 2, 3, 4, 5, 6, 7);
        }
        same.sand(3);
        Shows.dueHours(same, 0, 1, 2, 3, 4, 5);
        Check.due("last hour", same.count(3), 5);
        Check.about("each CLASS with BEASTS that are ENTERED has an HOUR (from 0 on)");
        for (int c = 0; c < 6; c++) {
            CattleShow show = Shows.of(1);
            Shows.dueHours(show, -1, -1, -1, -1, -1, -1);
            Check.due("no last hour", show.count(3), -1);
            show.enter(c, 0);
            for (int d = 0; d < 6; d++) {
                Check.due("hour of " + d, show.hour(d), d == c ? 0 : -1);
            }
            Check.due("last hour", show.count(3), 0);
            show.protest(c, 0);
            Check.due("none is left", show.hour(c), -1);
            Check.due("no last hour", show.count(3), -1);
        }
        Check.about("so that the last HOUR is as early as can be; of such ones the least row of HOURS, CLASS by CLASS");
        CattleShow show = Shows.of(10);
        Shows.enterAll(show, 0, 0);
        Shows.enterAll(show, 1, 1);
        Shows.dueHours(show, 0, 0, -1, -1, -1, -1);
        Shows.enterAll(show, 4, 0, 2);
        Shows.dueHours(show, 0, 0, -1, -1, 1, -1);
        Shows.enterAll(show, 5, 1, 2);
        Shows.dueHours(show, 0, 1, -1, -1, 1, 0);
        Check.due("last hour", show.count(3), 1);
        Shows.enterAll(show, 2, 9);
        Shows.dueHours(show, 0, 0, 1, -1, 1, 2);
        Check.due("last hour", show.count(3), 2);
    }

    private static void teams() {
        Check.about("A TEAM of a SIRE: the three least PLACES of its BEASTS, in whatever CLASSES");
        for (int sire = 0; sire < 10; sire++) {
            CattleShow show = new CattleShow();
            for (int b = 0; b < 10; b++) {
                show.beast(0, 0, b < 7 ? (sire + 1) % 10 : sire, 0);
            }
            for (int c = 0; c < 3; c++) {
                Check.due("team of " + c, show.team(sire), -1);
                Shows.enterAll(show, c, 0, 1, 2, 3, 4, 5, 6, 7 + c);
            }
            Check.due("three last ones", show.team(sire), 8 + 8 + 8);
            Check.due("another sire", show.team((sire + 1) % 10), 1 + 2 + 3);
            Check.due("no beasts", show.team((sire + 2) % 10), -1);
            show.enter(3, 9);
            Check.due("one is first elsewhere", show.team(sire), 8 + 8 + 1);
            show.protest(0, 0);
            Check.due("one moved up", show.team(sire), 7 + 8 + 1);
            show.protest(0, 7);
            Check.due("two are left", show.team(sire), -1);
        }
        Check.about("(a BEAST counts once, by its least PLACE)");
        CattleShow show = new CattleShow();
        for (int b = 0; b < 4; b++) {
            show.beast(0, 0, 9, 0);
        }
        for (int c = 0; c < 6; c++) {
            show.enter(c, 2);
            show.enter(c, 3);
        }
        Check.due("two beasts in six classes", show.team(9), -1);
        show.enter(5, 1);
        Check.due("three", show.team(9), 1 + 1 + 2);
        show.enter(4, 0);
        Check.due("the least of four", show.team(9), 1 + 1 + 1);
    }

    private static void prices() {
        Check.about("THE PRICE of a BEAST: 100, and for each CLASS in which it is ENTERED 50 through its PLACE, rounded down");
        int[] prices = {50, 25, 16, 12, 10, 8, 7, 6};
        CattleShow show = Shows.of(20);
        for (int c = 0; c < 6; c++) {
            Shows.enterAll(show, c, 12, 13, 14, 15, 16, 17, 18, 19);
            for (int i = 0; i < 8; i++) {
                Check.due("price of place " + (i + 1), show.price(12 + i), 100 + (c + 1) * prices[i]);
            }
        }
        Check.due("entered nowhere", show.price(0), 100);
        for (int c = 0; c < 6; c++) {
            show.protest(c, 12);
            Check.due("out of " + (c + 1), show.price(12), 100 + (5 - c) * 50);
        }
    }

    private static void ownMemory() {
        Check.about("All memory is the show's own");
        CattleShow one = Shows.withClass(3);
        CattleShow other = Shows.withClass(3);
        Tapes.feedAll(one, 2, 1, 0);
        Check.due("tape", other.count(2), 0);
        Check.due("order", one.order(0, 0), true);
        Shows.dueRow("order", one, 0, 2, 1, 0);
        Shows.dueRow("no order", other, 0, 0, 1, 2);
        Check.due("orders", other.count(20), 0);
        one.measure(0, 0, 9);
        Check.due("measure", other.look(0, 4), 0);
        one.bar(0, 0);
        Check.due("barred", other.bar(0, 0), true);
        Tapes.text(one, 1, "b3");
        Check.due("text", other.lets(1, 0), 1);
        one.protest(0, 1);
        Check.due("protest", other.look(1, 10), 2);
        one.cut(0, 1, 9);
        Check.due("cut", Tapes.card(other, 0, 1, 0, 2), 47);
        one.sand(1);
        Check.due("sand", other.count(1), 2);
        one.beast(0, 0, 0, 0);
        Check.due("beasts", other.count(0), 3);
        Tapes.feedAll(one, 0);
        Tapes.feedAll(other, 1);
        Check.due("own tape", other.text(0, 0), 0);
        Check.due("tape", one.count(2), 20);
    }
}
