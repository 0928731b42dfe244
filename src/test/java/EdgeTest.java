/**
 * The chapters 'Promise 1' to 'Promise 22', sentence by sentence: each number that a call takes at both ends of its
 * range and just outside, and the empty and the full of what it reads. (What a refused call leaves as it was: RefusalTest.)
 */
final class EdgeTest {
    private static final String TWENTY = "b0123;f10;t150;m0>04";

    private EdgeTest() {
    }

    public static void main(String[] args) {
        newObject();
        feed();
        bytesOfFeed();
        text();
        textAndRest();
        beast();
        measure();
        lets();
        enter();
        protest();
        bar();
        order();
        orderAndTape();
        placed();
        swapsAndRing();
        cut();
        card();
        reasons();
        sand();
        hour();
        teamAndPrice();
        look();
        count();
        Check.end("EdgeTest");
    }

    private static void newObject() {
        Check.about("No BEASTS; six CLASSES with empty TEXTS; nothing BARRED");
        CattleShow show = new CattleShow();
        for (int b = 0; b < 20; b++) {
            Check.due("look at " + b, show.look(b, 0), -1);
            Check.due("price of " + b, show.price(b), -1);
        }
        int[] counts = {0, 2, 0, -1};
        for (int what = 0; what < 4; what++) {
            Check.due("count " + what, show.count(what), counts[what]);
        }
        for (int c = 0; c < 6; c++) {
            Check.due("entered", show.count(10 + c), 0);
            Check.due("orders", show.count(20 + c), 0);
            Check.due("placed", show.placed(c, 1), -1);
            Check.due("swaps", show.swaps(c), 0);
        }
        for (int b = 0; b < 20; b++) {
            show.beast(b % 4, b < 10 ? 0 : 200, 0, 0);
            show.measure(b, b % 3, 99);
        }
        for (int c = 0; c < 6; c++) {
            for (int b = 0; b < 20; b++) {
                Check.due("class " + c + " lets " + b, show.lets(c, b), 1);
            }
        }
        Check.due("no seventh class", show.lets(6, 0), -1);
        for (int j = 0; j < 6; j++) {
            for (int b = 0; b < 20; b++) {
                Check.due("bar " + j + " from " + b, show.bar(j, b), true);
            }
        }
    }

    private static void feed() {
        Check.about("how many it has; NONE if that would be more than 80");
        CattleShow show = new CattleShow();
        for (int round = 0; round < 3; round++) {
            for (int n = 20; n <= 80; n += 20) {
                Check.due("feed", show.feed(n, n, n, n, n), n);
                Check.due("count", show.count(2), n);
            }
            Check.due("feed a full tape", show.feed(0, 0, 0, 0, 0), -1);
            Check.due("feed it again", show.feed(-1, -1, -1, -1, -1), -1);
            Check.due("count", show.count(2), 80);
            Check.due("emptied", show.text(0, 0), 0);
            Check.due("count", show.count(2), 0);
        }
        for (int n : new int[] {Integer.MIN_VALUE, -1, 0, 1, Integer.MAX_VALUE}) {
            Check.due("any ints", new CattleShow().feed(n, n, n, n, n), 20);
        }
    }

    private static void bytesOfFeed() {
        Check.about("Twenty bytes come behind the tape, the highest of each int first");
        String whole = "a>b:0;".repeat(13) + "x!";
        for (int at = 0; at < 80; at++) {
            CattleShow show = Shows.withClass(2);
            Tapes.feedAll(show, Tapes.bytesOf(whole.substring(0, at) + "?" + whole.substring(at + 1)));
            Check.due("reasons with byte " + at + " wrong", show.reasons(0, 80), -100 - Math.min(at, 78));
        }
        for (int value = 0; value < 256; value++) {
            for (int shift = 24; shift >= 0; shift -= 8) {
                CattleShow show = Shows.withClass(4);
                int word = 0x00010203 & ~(255 << shift) | value << shift;
                show.feed(word, -1, -1, -1, -1);
                Check.due("byte " + value + " of an order", show.order(0, 0), value == 3 - shift / 8);
            }
        }
    }

    private static void text() {
        Check.about("The first n bytes of the tape (empty then) are the TEXT of CLASS c: 0");
        Ranges.dueAnswers("class", 0, 5, c -> Tapes.text(new CattleShow(), c, "t0"), c -> 0);
        for (int length = 0; length <= 80; length += 20) {
            int fed = length;
            Ranges.dueAnswers("bytes of " + length, 0, length, n -> fedBlanks(fed).text(0, n), n -> n == 0 ? 0 : 100);
        }
        CattleShow show = Shows.of(20);
        Check.due("twenty bytes, all of them", Tapes.text(show, 2, TWENTY), 0);
        show.measure(15, 0, 5);
        show.measure(16, 0, 5);
        show.measure(1, 0, 4);
        Check.due("lets the oldest", show.lets(2, 15), 1);
        Check.due("not one older", show.lets(2, 16), 0);
        Check.due("not one with less", show.lets(2, 1), 0);
        Check.about("a FAULT: 100 times its number and its place (the TEXT stays)");
        Check.due("fault at the first byte", Tapes.text(show, 2, "x"), 100);
        Check.due("fault at the end", Tapes.text(show, 2, TWENTY + ";"), 121);
        Check.due("fault 2", Tapes.text(show, 2, TWENTY + ";b4"), 222);
        Check.due("still not one older", show.lets(2, 16), 0);
        Check.due("still lets the oldest", show.lets(2, 15), 1);
    }

    private static CattleShow fedBlanks(int bytes) {
        CattleShow show = new CattleShow();
        for (int n = 0; n < bytes; n += 20) {
            show.feed(0x20202020, 0x20202020, 0x20202020, 0x20202020, 0x20202020);
        }
        return show;
    }

    private static void textAndRest() {
        Check.about("The first n bytes of the tape (empty then)");
        for (int n = 0; n <= 20; n++) {
            CattleShow show = new CattleShow();
            Tapes.feedAll(show, Tapes.bytesOf(TWENTY + ";;;;"));
            boolean whole = n == 0 || n > 1 && n < 6 || n > 7 && n < 10 || n > 11 && n < 15 || n > 18;
            Check.due("the first " + n + " bytes", show.text(0, n), whole ? 0 : 100 + n);
            Check.due("tape", show.count(2), 0);
        }
        Check.about("it has not so many (the tape stays)");
        CattleShow show = new CattleShow();
        Check.due("one of none", show.text(0, 1), -1);
        Check.due("none of none", show.text(0, 0), 0);
        Tapes.feedAll(show, Tapes.bytesOf(TWENTY));
        Check.due("21 of 20", show.text(0, 21), -1);
        Check.due("-1 of 20", show.text(0, -1), -1);
        Check.due("no such class", show.text(6, 20), -1);
        Check.due("tape", show.count(2), 20);
        Check.due("20 of 20", show.text(0, 20), 0);
        Check.due("tape", show.count(2), 0);
    }

    private static void beast() {
        Check.about("A BEAST (MEASURES 0): its number; NONE: no such numbers, 20 are there");
        CattleShow show = new CattleShow();
        for (int b = 0; b < 20; b++) {
            Check.due("one wrong number", show.beast(0, 201, 0, 0), -1);
            Check.due("number", show.beast(b % 4, 10 * b, b / 2, 9 - b / 2), b);
            for (int m = 0; m < 3; m++) {
                Check.due("measure", show.look(b, 4 + m), 0);
                show.measure(b, m, 99);
            }
        }
        Check.due("20 are there", show.beast(0, 0, 0, 0), -1);
        Check.due("beasts", show.count(0), 20);
        for (int b = 0; b < 20; b++) {
            Check.due("breed", show.look(b, 0), b % 4);
            Check.due("age", show.look(b, 1), 10 * b);
            Check.due("sire", show.look(b, 2), b / 2);
            Check.due("handler", show.look(b, 3), 9 - b / 2);
        }
        Check.due("all wrong at once", new CattleShow().beast(-1, -1, -1, -1), -1);
    }

    private static void measure() {
        Check.about("A MEASURE of BEAST b: true; false: no such ones");
        for (int beasts : new int[] {0, 1, 19, 20}) {
            Ranges.due("beast of " + beasts, 0, beasts - 1, b -> Shows.of(beasts).measure(b, 0, 1));
        }
        Ranges.due("measure", 0, 2, m -> Shows.of(1).measure(0, m, 99));
        Ranges.due("number", 0, 99, n -> Shows.of(1).measure(0, 2, n));
        CattleShow show = Shows.of(1);
        Check.due("the same again", show.measure(0, 0, 7) && show.measure(0, 0, 7), true);
    }

    private static void lets() {
        Check.about("Whether the TEXT of CLASS c lets BEAST b in: 1, 0; NONE: no such ones");
        Ranges.dueAnswers("class", 0, 5, c -> Shows.of(1).lets(c, 0), c -> 1);
        for (int beasts : new int[] {0, 1, 19, 20}) {
            Ranges.dueAnswers("beast of " + beasts, 0, beasts - 1, b -> Shows.of(beasts).lets(5, b), b -> 1);
        }
        CattleShow show = Shows.withClass(9);
        Check.due("one that is entered", show.lets(0, 0), 1);
        Check.due("a full class", show.lets(0, 8), 1);
        show.protest(0, 0);
        Check.due("one that is out", show.lets(0, 0), 1);
        Tapes.text(show, 0, "b0");
        Check.due("entered, but not let in", show.lets(0, 1), 0);
    }

    private static void enter() {
        Check.about("BEAST b is ENTERED in CLASS c: true; false: no such ones, it is");
        Ranges.due("class", 0, 5, c -> Shows.of(1).enter(c, 0));
        for (int beasts : new int[] {0, 1, 19, 20}) {
            Ranges.due("beast of " + beasts, 0, beasts - 1, b -> Shows.of(beasts).enter(5, b));
        }
        for (int b = 0; b < 20; b++) {
            CattleShow show = Shows.of(20);
            Check.due("first", show.enter(3, b), true);
            Check.due("it is", show.enter(3, b), false);
            Check.due("entered", show.count(13), 1);
            show.protest(3, b);
            Check.due("out by a protest", show.enter(3, b), false);
            Check.due("entered", show.count(13), 0);
        }
        CattleShow show = Shows.of(9);
        Tapes.text(show, 0, "f1");
        Check.due("not let in", show.enter(0, 0), false);
        for (int b = 1; b <= 8; b++) {
            Check.due("up to eight", show.enter(0, b), true);
        }
        Tapes.text(show, 0, "");
        Check.due("8 are", show.enter(0, 0), false);
        show.protest(0, 8);
        Check.due("7 are", show.enter(0, 0), true);
    }

    private static void protest() {
        Check.about("A PROTEST: true; false: it is not ENTERED there");
        Ranges.due("class", 0, 0, c -> Shows.withClass(8).protest(c, 0));
        Ranges.due("beast", 0, 7, b -> Shows.withClass(8).protest(0, b));
        Ranges.due("beast of a class that has more of them than it takes", 0, 7, b -> Shows.withClass(20).protest(0, b));
        Ranges.due("class of the last beast", 5, 5, c -> showOfLast().protest(c, 19));
        Ranges.due("the last beast", 19, 19, b -> showOfLast().protest(5, b));
        Check.due("an empty show", new CattleShow().protest(0, 0), false);
        CattleShow show = Shows.withClass(3);
        Check.due("first", show.protest(0, 0), true);
        Check.due("it is out", show.protest(0, 0), false);
        Shows.dueRow("moved up", show, 0, 1, 2);
        Check.due("the last but one", show.protest(0, 1), true);
        Check.due("the last", show.protest(0, 2), true);
        Shows.dueRow("empty", show, 0);
    }

    private static CattleShow showOfLast() {
        CattleShow show = Shows.of(20);
        show.enter(5, 19);
        return show;
    }

    private static void bar() {
        Check.about("JUDGE j is BARRED from BEAST b: true; false: no such ones, it was told");
        Ranges.due("judge", 0, 5, j -> Shows.of(20).bar(j, 19));
        for (int beasts : new int[] {0, 1, 19, 20}) {
            Ranges.due("beast of " + beasts, 0, beasts - 1, b -> Shows.of(beasts).bar(5, b));
        }
        CattleShow show = Shows.of(20);
        for (int j = 0; j < 6; j++) {
            for (int b = 0; b < 20; b++) {
                Check.due("first time", show.bar(j, b), true);
                Check.due("it was told", show.bar(j, b), false);
            }
        }
        for (int j = 0; j < 6; j++) {
            for (int b = 0; b < 20; b++) {
                Check.due("it was told long ago", show.bar(j, b), false);
            }
        }
        Check.about("(ORDERS told before stay.)");
        show = Shows.withClass(2);
        Tapes.order(show, 0, 0, 1, 0);
        show.bar(0, 0);
        show.bar(0, 1);
        Check.due("orders", show.count(20), 1);
        Shows.dueRow("told before", show, 0, 1, 0);
        Check.due("told now", Tapes.order(show, 0, 0, 0, 1), false);
        Shows.dueRow("the former", show, 0, 1, 0);
        show.protest(0, 1);
        Check.due("orders", show.count(20), 1);
        show.enter(0, 1);
        Check.due("orders", show.count(20), 1);
    }

    private static void order() {
        Check.about("An ORDER of JUDGE j of CLASS c: the first bytes of the tape, as many as are ENTERED");
        Ranges.due("judge", 0, 5, j -> Tapes.order(Shows.withClass(8), j, 0, 7, 6, 5, 4, 3, 2, 1, 0));
        Ranges.due("class", 0, 0, c -> Tapes.order(Shows.withClass(1), 0, c, 0));
        Ranges.due("class", 5, 5, c -> Tapes.order(showOfLast(), 0, c, 19));
        for (int j = 0; j < 6; j++) {
            CattleShow show = Shows.withClass(3);
            Check.due("three of three", Tapes.order(show, j, 0, 2, 1, 0), true);
            Check.due("three of twenty", Tapes.order(show, j, 0, 1, 2, 0, 0, 0, 7, 255), true);
            Check.due("orders", show.count(20), 1);
            Shows.dueRow("the later", show, 0, 1, 2, 0);
            Check.due("three of forty", Tapes.order(show, j, 0, padded(40, 0, 2, 1)), true);
            Check.due("three of eighty", Tapes.order(show, j, 0, padded(80, 2, 0, 1)), true);
            Shows.dueRow("the last", show, 0, 2, 0, 1);
        }
    }

    private static int[] padded(int length, int... row) {
        int[] bytes = new int[length];
        System.arraycopy(row, 0, bytes, 0, row.length);
        return bytes;
    }

    private static void orderAndTape() {
        Check.about("no such ones, none is ENTERED, it has not so many (the tape stays by all these), BARRED, "
                + "no row of all (the former ORDER stays)");
        CattleShow show = Shows.withClass(2);
        show.bar(4, 0);
        Check.due("has not so many", show.order(0, 0), false);
        Check.due("barred, and has not so many", show.order(4, 0), false);
        Tapes.feedAll(show, 1, 0);
        Check.due("no such judge", show.order(6, 0), false);
        Check.due("no such class", show.order(0, 6), false);
        Check.due("none is entered", show.order(0, 5), false);
        Check.due("barred, but none is entered", show.order(4, 5), false);
        Check.due("tape", show.count(2), 20);
        Check.due("told", show.order(0, 0), true);
        Check.due("tape", show.count(2), 0);
        Check.due("barred", Tapes.order(show, 4, 0, 1, 0), false);
        Check.due("tape of who is barred", show.count(2), 0);
        Check.due("no row", Tapes.order(show, 0, 0, 0, 0), false);
        Check.due("tape of no row", show.count(2), 0);
        Check.due("orders", show.count(20), 1);
        Shows.dueRow("the former", show, 0, 1, 0);
        show.protest(0, 0);
        show.protest(0, 1);
        Tapes.feedAll(show, 0);
        Check.due("none is left", show.order(0, 0), false);
        Check.due("tape", show.count(2), 20);
    }

    private static void placed() {
        Check.about("The BEAST of a PLACE (from 1 on) of CLASS c; NONE: there is none such");
        Ranges.dueAnswers("class", 0, 0, c -> Shows.withClass(1).placed(c, 1), c -> 0);
        Ranges.dueAnswers("class", 5, 5, c -> showOfLast().placed(c, 1), c -> 19);
        for (int size = 0; size <= 8; size++) {
            int places = size;
            Ranges.dueAnswers("place of " + size, 1, size, n -> Shows.withClass(places).placed(0, n), n -> n - 1);
        }
    }

    private static void swapsAndRing() {
        Check.about("SWAPS of THE JOINED ORDER of CLASS c; NONE: no such one");
        Ranges.dueAnswers("class", 0, 5, c -> new CattleShow().swaps(c), c -> 0);
        Check.about("THE RING of CLASS c, what 0 a, 1 b, 2 c; NONE: there is none");
        Ranges.dueAnswers("what", 0, 2, what -> showOfRing().ring(5, what), what -> 17 + what);
        Ranges.dueAnswers("class", 5, 5, c -> showOfRing().ring(c, 0), c -> 17);
        CattleShow show = showOfRing();
        show.protest(5, 18);
        for (int what = 0; what < 3; what++) {
            Check.due("two are left", show.ring(5, what), -1);
        }
    }

    private static CattleShow showOfRing() {
        CattleShow show = Shows.of(20);
        Shows.enterAll(show, 5, 17, 18, 19);
        Tapes.order(show, 0, 5, 17, 18, 19);
        Tapes.order(show, 1, 5, 18, 19, 17);
        Tapes.order(show, 5, 5, 19, 17, 18);
        return show;
    }

    private static void cut() {
        Check.about("A CUT of CLASS c between PLACES i and i + 1: true; false: no such ones");
        Ranges.due("class", 0, 5, c -> new CattleShow().cut(c, 1, 0));
        Ranges.due("place", 1, 3, i -> new CattleShow().cut(5, i, 15));
        Ranges.due("number", 0, 15, n -> new CattleShow().cut(0, 3, n));
        CattleShow show = Shows.of(2);
        show.cut(3, 1, 15);
        show.enter(3, 0);
        show.enter(3, 1);
        Check.due("told before any was entered", Tapes.card(show, 3, 1, 0), 35);
        show.protest(3, 0);
        show.cut(3, 1, 14);
        Check.due("one is left", Tapes.card(show, 3, 1, 0), -1);
    }

    private static void card() {
        Check.about("POINTS of a CARD of CLASS c: the first bytes of the tape (empty then; as many as it must have)");
        Ranges.dueAnswers("class", 0, 0, c -> Tapes.card(Shows.withClass(2), c, 0, 1), c -> 50);
        for (int size = 2; size <= 8; size++) {
            CattleShow show = Shows.withClass(size);
            Check.due("card of twenty bytes", Tapes.card(show, 0, 0, 1, 2, 3, 255), 50);
            Check.due("tape", show.count(2), 0);
            Check.due("card of eighty bytes", Tapes.card(show, 0, padded(80, 0, 1, 2, 3)), 50);
            Check.due("tape", show.count(2), 0);
        }
        Check.about("fewer than two ENTERED, not so many bytes (the tape stays by all these), no row of these");
        CattleShow show = Shows.withClass(5);
        show.enter(1, 0);
        Check.due("no bytes", show.card(0), -1);
        Tapes.feedAll(show, 0, 1, 2, 3);
        Check.due("no such class", show.card(6), -1);
        Check.due("none entered", show.card(2), -1);
        Check.due("one entered", show.card(1), -1);
        Check.due("tape", show.count(2), 20);
        Check.due("five entered", show.card(0), 50);
        Check.due("the fifth place", Tapes.card(show, 0, 0, 1, 2, 4), -1);
        Check.due("tape of no row", show.count(2), 0);
        Check.due("one twice", Tapes.card(show, 0, 0, 1, 2, 2), -1);
        show.protest(0, 3);
        Check.due("the fifth has moved up", Tapes.card(show, 0, 0, 1, 2, 4), 50);
        Shows.protestAll(show, 0, 0, 1);
        Check.due("two are left", Tapes.card(show, 0, 4, 2), 47);
        show.protest(0, 2);
        Check.due("one is left", Tapes.card(show, 0, 4), -1);
        Check.due("tape", show.count(2), 20);
    }

    private static void reasons() {
        Check.about("REASONS about CLASS c, the first n bytes of the tape (empty then): POINTS; a FAULT: -100 times "
                + "its number, less its place; NONE: no such one, it has not so many (the tape stays)");
        Ranges.dueAnswers("class", 0, 5, c -> Tapes.reasons(Shows.withClass(2), c, "x"), c -> -100);
        for (int length = 0; length <= 80; length += 20) {
            int fed = length;
            Ranges.dueAnswers("bytes of " + length, 0, length, n -> fedBlanks(fed).reasons(0, n), n -> -100);
        }
        CattleShow show = Shows.withClass(2);
        show.measure(0, 0, 1);
        Check.due("one of none", show.reasons(0, 1), -1);
        Check.due("none of none", show.reasons(0, 0), -100);
        for (int n = 0; n <= 11; n++) {
            Tapes.feedAll(show, Tapes.bytesOf("a>b:0;a>b:0!"));
            Check.due("the first " + n, show.reasons(0, n), n == 5 ? 2 : n == 11 ? 4 : -100 - n);
            Check.due("tape", show.count(2), 0);
        }
        Tapes.feedAll(show, Tapes.bytesOf("a>b:0"));
        Check.due("21 of 20", show.reasons(0, 21), -1);
        Check.due("-1 of 20", show.reasons(0, -1), -1);
        Check.due("no such class", show.reasons(6, 5), -1);
        Check.due("tape", show.count(2), 20);
        Check.due("5 of 20", show.reasons(0, 5), 2);
    }

    private static void sand() {
        Check.about("RINGS OF SAND: true; false: no such number");
        Ranges.due("sand", 1, 3, n -> new CattleShow().sand(n));
        CattleShow show = new CattleShow();
        for (int n : new int[] {3, 1, 2, 2}) {
            Check.due("sand " + n, show.sand(n), true);
            Check.due("too few", show.sand(0), false);
            Check.due("too many", show.sand(4), false);
            Check.due("sand", show.count(1), n);
        }
    }

    private static void hour() {
        Check.about("The HOUR of CLASS c; NONE: none is ENTERED, no such one");
        Ranges.dueAnswers("class", 0, 0, c -> Shows.withClass(1).hour(c), c -> 0);
        Ranges.dueAnswers("class", 5, 5, c -> showOfLast().hour(c), c -> 0);
        CattleShow show = Shows.of(1);
        for (int c = 5; c >= 0; c--) {
            Check.due("none is entered", show.hour(c), -1);
            show.enter(c, 0);
            Check.due("the first is", show.hour(c), 0);
            Check.due("the last hour", show.hour(5), 5 - c);
        }
    }

    private static void teamAndPrice() {
        Check.about("The sum of a TEAM of a SIRE; NONE: it has not three, no such one");
        Ranges.dueAnswers("sire", 0, 9, EdgeTest::teamOfThree, sire -> 1 + 2 + 3);
        for (int entered = 0; entered <= 4; entered++) {
            CattleShow show = new CattleShow();
            for (int b = 0; b < 4; b++) {
                show.beast(0, 0, 9, 0);
            }
            for (int b = 0; b < entered; b++) {
                show.enter(0, b);
            }
            Check.due("team of " + entered, show.team(9), entered < 3 ? -1 : 1 + 2 + 3);
        }
        Check.about("THE PRICE of BEAST b; NONE: no such one");
        for (int beasts : new int[] {0, 1, 19, 20}) {
            Ranges.dueAnswers("beast of " + beasts, 0, beasts - 1, b -> Shows.of(beasts).price(b), b -> 100);
        }
    }

    /** The three have that SIRE, or, if there is none such, one that it could be mistaken for. */
    private static int teamOfThree(int sire) {
        CattleShow show = new CattleShow();
        for (int b = 0; b < 3; b++) {
            show.beast(0, 0, Math.floorMod(sire, 10), 0);
            show.enter(0, b);
        }
        return show.team(sire);
    }

    private static void look() {
        Check.about("Of BEAST b, what 0 BREED, 1 AGE, 2 SIRE, 3 HANDLER, 4 + m MEASURE m, 7 in how many CLASSES it is "
                + "ENTERED; 10 + c its PLACE in CLASS c (NONE). NONE for others");
        for (int beasts : new int[] {0, 1, 19, 20}) {
            Ranges.dueAnswers("beast of " + beasts, 0, beasts - 1, b -> Shows.of(beasts).look(b, 1), b -> 10 * b);
        }
        Ranges.dueAnswers("what, of one that is entered nowhere", 0, 7, what -> Shows.of(1).look(0, what), what -> 0);
        CattleShow show = new CattleShow();
        show.beast(3, 200, 9, 8);
        for (int m = 0; m < 3; m++) {
            show.measure(0, m, 97 + m);
        }
        int[] wants = {3, 200, 9, 8, 97, 98, 99, 0};
        for (int what = 0; what < wants.length; what++) {
            Check.due("look " + what, show.look(0, what), wants[what]);
        }
        for (int c = 0; c < 6; c++) {
            Check.due("entered in", show.look(0, 7), c);
            Check.due("no place", show.look(0, 10 + c), -1);
            show.enter(c, 0);
            Check.due("place", show.look(0, 10 + c), 1);
        }
        Check.due("entered in all", show.look(0, 7), 6);
        for (int what : new int[] {Integer.MIN_VALUE, -1, 8, 9, 16, 17, 20, 26, Integer.MAX_VALUE}) {
            Check.due("look " + what, show.look(0, what), -1);
        }
        for (int c = 0; c < 6; c++) {
            show.protest(c, 0);
            Check.due("no place of who is out", show.look(0, 10 + c), -1);
            Check.due("entered in", show.look(0, 7), 5 - c);
        }
        CattleShow eight = Shows.withClass(8);
        for (int b = 0; b < 8; b++) {
            Check.due("place of eight", eight.look(b, 10), b + 1);
            Check.due("place in an empty class", eight.look(b, 15), -1);
        }
    }

    private static void count() {
        Check.about("0 BEASTS, 1 RINGS OF SAND, 2 bytes of the tape, 3 the last HOUR (NONE); 10 + c how many are ENTERED "
                + "in CLASS c, 20 + c ORDERS of it that count. NONE for others");
        for (int what = -100; what < 100; what++) {
            boolean told = what >= 0 && what <= 3 || what >= 10 && what <= 15 || what >= 20 && what <= 25;
            Check.due("count " + what + " is told", Shows.withClass(1).count(what) != -1, told);
        }
        CattleShow show = Shows.of(20);
        Check.due("no last hour", show.count(3), -1);
        for (int c = 0; c < 6; c++) {
            for (int size = 1; size <= 8; size++) {
                show.enter(c, size - 1);
                Check.due("entered", show.count(10 + c), size);
            }
            for (int j = 0; j < 6; j++) {
                Tapes.order(show, j, c, 7, 6, 5, 4, 3, 2, 1, 0);
                Check.due("orders", show.count(20 + c), j + 1);
            }
            Check.due("last hour", show.count(3), c);
        }
        for (int c = 0; c < 6; c++) {
            Check.due("entered", show.count(10 + c), 8);
            Check.due("orders", show.count(20 + c), 6);
        }
        for (int what : new int[] {Integer.MIN_VALUE, -10, -1, 4, 9, 16, 19, 26, 30, Integer.MAX_VALUE}) {
            Check.due("count " + what, show.count(what), -1);
        }
        CattleShow out = Shows.withClass(1);
        out.protest(0, 0);
        Check.due("no last hour any more", out.count(3), -1);
    }
}
