import java.util.function.Consumer;
import java.util.function.Predicate;
import java.util.function.ToIntFunction;

/**
 * 'A call that is refused (NONE, false) changes nothing but the tape, where it is told': each reason for which a call
 * is refused, done on a busy show that must then stand like its twin, which never heard the call.
 */
final class RefusalTest {
    private static final String NOTHING_ELSE = "A call that is refused (NONE, false) changes nothing but the tape, "
            + "where it is told";
    private static final int LOW = Integer.MIN_VALUE;
    private static final int HIGH = Integer.MAX_VALUE;

    private RefusalTest() {
    }

    public static void main(String[] args) {
        twinsTellApart();
        Check.about(NOTHING_ELSE);
        feedOfFullTape();
        texts();
        beasts();
        measures();
        enters();
        protests();
        bars();
        orders();
        cuts();
        cards();
        reasons();
        sands();
        asked();
        faults();
        Check.end("RefusalTest");
    }

    /**
     * Fourteen BEASTS. CLASS 0 has a text, a ring and one that is out, 1 is full, 2 has one, of 3 all are out though an
     * ORDER counts, 4 lets in none, 5 has two without ORDERS.
     */
    private static void makeBusy(CattleShow show) {
        for (int b = 0; b < 14; b++) {
            show.beast(b % 4, 10 + 10 * b, b % 3, b % 10);
            show.measure(b, 0, 5 + b);
            show.measure(b, 1, 80 - b);
        }
        Tapes.text(show, 0, "b012;t150;m0>4;m1<90");
        Tapes.text(show, 4, "t0");
        Shows.enterAll(show, 0, 0, 1, 2, 4, 5);
        Shows.enterAll(show, 1, 0, 1, 2, 3, 4, 5, 6, 7);
        Shows.enterAll(show, 2, 9);
        Shows.enterAll(show, 3, 3, 10);
        Shows.enterAll(show, 5, 11, 12);
        Tapes.order(show, 0, 0, 1, 2, 4, 5, 0);
        Tapes.order(show, 1, 0, 2, 4, 1, 0, 5);
        Tapes.order(show, 2, 0, 4, 1, 2, 5, 0);
        Tapes.order(show, 0, 1, 7, 6, 5, 4, 3, 2, 1, 0);
        Tapes.order(show, 3, 1, 6, 7, 4, 5, 2, 3, 0, 1);
        Tapes.order(show, 4, 2, 9);
        Tapes.order(show, 5, 3, 10, 3);
        show.protest(0, 5);
        Shows.protestAll(show, 3, 3, 10);
        show.bar(3, 0);
        show.bar(4, 13);
        show.bar(0, 11);
        show.cut(0, 1, 7);
        show.cut(1, 2, 0);
        show.cut(1, 3, 15);
        show.cut(5, 1, 9);
        show.sand(3);
    }

    private static void makeFull(CattleShow show) {
        makeBusy(show);
        for (int b = 14; b < 20; b++) {
            show.beast(3, 200, 9, 9);
        }
    }

    private static void feedText(CattleShow show) {
        Tapes.feedAll(show, Tapes.bytesOf("b0123;f10;t150;m0>04"));
    }

    private static void feedRow(CattleShow show) {
        Tapes.feedAll(show, 7, 6, 5, 4, 3, 2, 1, 0);
    }

    private static void feedCard(CattleShow show) {
        Tapes.feedAll(show, 6, 7, 5, 4);
    }

    private static void feedReasons(CattleShow show) {
        Tapes.feedAll(show, Tapes.bytesOf("a>b:0-1;b>c:1;a>c:22"));
    }

    private static void feedNothing(CattleShow show) {
        Check.due("tape", show.count(2), 0);
    }

    /** A refused call on that show is heard by one twin alone; both tapes must be as before. */
    private static void dueTapeStays(String what, Consumer<CattleShow> made, Predicate<CattleShow> isRefused) {
        Twins.dueAlike(what, made.andThen(show -> Check.due(what, isRefused.test(show), true)), made);
    }

    /** The same with each tape that tells something. */
    private static void dueNothing(String what, Predicate<CattleShow> isRefused) {
        Consumer<CattleShow> busy = RefusalTest::makeBusy;
        dueTapeStays(what, busy.andThen(RefusalTest::feedNothing), isRefused);
        dueTapeStays(what, busy.andThen(RefusalTest::feedText), isRefused);
        dueTapeStays(what, busy.andThen(RefusalTest::feedRow), isRefused);
        dueTapeStays(what, busy.andThen(RefusalTest::feedCard), isRefused);
        dueTapeStays(what, busy.andThen(RefusalTest::feedReasons), isRefused);
    }

    /** The tape that the refused call had is empty: its twin was never fed. */
    private static void dueTapeEmpty(String what, Consumer<CattleShow> feed, Predicate<CattleShow> isRefused) {
        Consumer<CattleShow> busy = RefusalTest::makeBusy;
        Twins.dueAlike(what, busy.andThen(feed).andThen(show -> Check.due(what, isRefused.test(show), true)), busy);
    }

    private static Predicate<CattleShow> none(ToIntFunction<CattleShow> call) {
        return show -> call.applyAsInt(show) == -1;
    }

    private static Predicate<CattleShow> not(Predicate<CattleShow> call) {
        return call.negate();
    }

    /** Without this a twin that is blind to a change would let every refusal pass. */
    private static void twinsTellApart() {
        Check.about("what the twins' answers rest on");
        CattleShow show = new CattleShow();
        makeFull(show);
        Check.due("beasts", show.count(0), 20);
        int[] entered = {4, 8, 1, 0, 0, 2};
        int[] orders = {3, 2, 1, 1, 0, 0};
        for (int c = 0; c < 6; c++) {
            Check.due("entered in " + c, show.count(10 + c), entered[c]);
            Check.due("orders of " + c, show.count(20 + c), orders[c]);
        }
        Check.due("ring", show.ring(0, 0), 1);
        feedText(show);
        Check.due("the tape is a text", show.text(2, 20), 0);
        feedReasons(show);
        Check.due("the tape is reasons", show.reasons(1, 20) >= 0, true);
        feedCard(show);
        Check.due("the tape is a card", show.card(1) >= 0, true);
        feedRow(show);
        Check.due("the tape is an order", show.order(1, 1), true);
    }

    private static void feedOfFullTape() {
        Consumer<CattleShow> busy = RefusalTest::makeBusy;
        Consumer<CattleShow> full = busy.andThen(RefusalTest::feedText).andThen(RefusalTest::feedText)
                .andThen(RefusalTest::feedReasons).andThen(RefusalTest::feedRow);
        dueTapeStays("feed of a full tape", full, none(show -> show.feed(-1, -1, -1, -1, -1)));
        full = busy.andThen(RefusalTest::feedRow).andThen(RefusalTest::feedRow)
                .andThen(RefusalTest::feedRow).andThen(RefusalTest::feedRow);
        dueTapeStays("feed of a full tape", full, none(show -> show.feed(0, 0, 0, 0, 0)));
    }

    private static void texts() {
        for (int c : new int[] {LOW, -1, 6, HIGH}) {
            dueNothing("text of class " + c, none(show -> show.text(c, 0)));
        }
        for (int n : new int[] {LOW, -1, 21, 80, HIGH}) {
            dueNothing("text of " + n + " bytes", none(show -> show.text(0, n)));
        }
    }

    private static void beasts() {
        for (int n : new int[] {LOW, -1, 201, HIGH}) {
            dueNothing("beast of breed " + n, none(show -> show.beast(n, 0, 0, 0)));
            dueNothing("beast of age " + n, none(show -> show.beast(0, n, 0, 0)));
            dueNothing("beast of sire " + n, none(show -> show.beast(0, 0, n, 0)));
            dueNothing("beast of handler " + n, none(show -> show.beast(0, 0, 0, n)));
        }
        dueNothing("beast of breed 4", none(show -> show.beast(4, 0, 0, 0)));
        dueNothing("beast of sire 10", none(show -> show.beast(0, 0, 10, 0)));
        dueNothing("beast of handler 10", none(show -> show.beast(0, 0, 0, 10)));
        dueTapeStays("beast when 20 are there", RefusalTest::makeFull, none(show -> show.beast(0, 0, 0, 0)));
    }

    private static void measures() {
        for (int b : new int[] {LOW, -1, 14, 20, HIGH}) {
            dueNothing("measure of beast " + b, not(show -> show.measure(b, 0, 1)));
        }
        for (int m : new int[] {LOW, -1, 3, HIGH}) {
            dueNothing("measure " + m, not(show -> show.measure(0, m, 1)));
        }
        for (int n : new int[] {LOW, -1, 100, HIGH}) {
            dueNothing("measure of " + n, not(show -> show.measure(0, 0, n)));
        }
    }

    private static void enters() {
        for (int n : new int[] {LOW, -1, 14, 20, HIGH}) {
            dueNothing("enter in class " + n, not(show -> show.enter(n, 13)));
            dueNothing("enter of beast " + n, not(show -> show.enter(5, n)));
        }
        dueNothing("enter in class 6", not(show -> show.enter(6, 13)));
        dueNothing("enter of one that is", not(show -> show.enter(0, 4)));
        dueNothing("enter of one that was out", not(show -> show.enter(0, 5)));
        dueNothing("enter of one that was out of an empty class", not(show -> show.enter(3, 3)));
        dueNothing("enter of one that is not let in", not(show -> show.enter(0, 3)));
        dueNothing("enter where none is let in", not(show -> show.enter(4, 0)));
        dueNothing("enter of a ninth", not(show -> show.enter(1, 8)));
    }

    private static void protests() {
        for (int n : new int[] {LOW, -1, 14, 20, 32, HIGH}) {
            dueNothing("protest in class " + n, not(show -> show.protest(n, 0)));
            dueNothing("protest against beast " + n, not(show -> show.protest(0, n)));
        }
        dueNothing("protest in class 6", not(show -> show.protest(6, 0)));
        dueNothing("protest against one that is not entered", not(show -> show.protest(0, 6)));
        dueNothing("protest against one that is out", not(show -> show.protest(0, 5)));
        dueNothing("protest in an empty class", not(show -> show.protest(4, 0)));
    }

    private static void bars() {
        for (int n : new int[] {LOW, -1, 14, 20, HIGH}) {
            dueNothing("bar of judge " + n, not(show -> show.bar(n, 0)));
            dueNothing("bar from beast " + n, not(show -> show.bar(0, n)));
        }
        dueNothing("bar of judge 6", not(show -> show.bar(6, 0)));
        dueNothing("bar that was told", not(show -> show.bar(3, 0)));
    }

    private static void orders() {
        for (int n : new int[] {LOW, -1, 6, HIGH}) {
            dueNothing("order of judge " + n, not(show -> show.order(n, 1)));
            dueNothing("order of class " + n, not(show -> show.order(0, n)));
        }
        dueNothing("order of an empty class", not(show -> show.order(0, 4)));
        dueNothing("order of a class where all are out", not(show -> show.order(5, 3)));
        Consumer<CattleShow> busy = RefusalTest::makeBusy;
        dueTapeStays("order without bytes", busy, not(show -> show.order(1, 1)));
        dueTapeStays("order without bytes of who is barred", busy, not(show -> show.order(3, 1)));
        dueTapeEmpty("order of who is barred", RefusalTest::feedRow, not(show -> show.order(3, 1)));
        dueTapeEmpty("order of another row", RefusalTest::feedRow, not(show -> show.order(0, 0)));
        dueTapeEmpty("first order, no row", RefusalTest::feedRow, not(show -> show.order(5, 5)));
        dueTapeEmpty("order, one twice", show -> Tapes.feedAll(show, 7, 6, 5, 4, 3, 2, 1, 1), not(show -> show.order(0, 1)));
        dueTapeEmpty("order, one out", show -> Tapes.feedAll(show, 5, 4, 2, 1), not(show -> show.order(1, 0)));
        dueTapeEmpty("order, no beast", show -> Tapes.feedAll(show, 255, 4, 2, 1), not(show -> show.order(1, 0)));
    }

    private static void cuts() {
        for (int n : new int[] {LOW, -1, 16, HIGH}) {
            dueNothing("cut of class " + n, not(show -> show.cut(n, 1, 1)));
            dueNothing("cut behind place " + n, not(show -> show.cut(0, n, 1)));
            dueNothing("cut of " + n, not(show -> show.cut(0, 1, n)));
        }
        dueNothing("cut of class 6", not(show -> show.cut(6, 1, 1)));
        dueNothing("cut behind place 0", not(show -> show.cut(0, 0, 1)));
        dueNothing("cut behind place 4", not(show -> show.cut(0, 4, 1)));
    }

    private static void cards() {
        for (int c : new int[] {LOW, -1, 6, HIGH}) {
            dueNothing("card of class " + c, none(show -> show.card(c)));
        }
        dueNothing("card of an empty class", none(show -> show.card(4)));
        dueNothing("card of a class where all are out", none(show -> show.card(3)));
        dueNothing("card of a class of one", none(show -> show.card(2)));
        dueTapeStays("card without bytes", RefusalTest::makeBusy, none(show -> show.card(1)));
        dueTapeEmpty("card, no row", RefusalTest::feedRow, none(show -> show.card(0)));
        dueTapeEmpty("card, one twice", show -> Tapes.feedAll(show, 7, 6, 5, 5), none(show -> show.card(1)));
        dueTapeEmpty("card, no beast", show -> Tapes.feedAll(show, 7, 6, 5, 200), none(show -> show.card(1)));
    }

    private static void reasons() {
        for (int n : new int[] {LOW, -1, 21, 81, HIGH}) {
            dueNothing("reasons about class " + n, none(show -> show.reasons(n, 0)));
            dueNothing("reasons of " + n + " bytes", none(show -> show.reasons(1, n)));
        }
        dueNothing("reasons about class 6", none(show -> show.reasons(6, 0)));
    }

    private static void sands() {
        for (int n : new int[] {LOW, -1, 0, 4, HIGH}) {
            dueNothing("sand of " + n, not(show -> show.sand(n)));
        }
    }

    /** What only asks changes nothing either, whether it is refused or not. */
    private static void asked() {
        for (int n : new int[] {LOW, -1, 16, 26, HIGH}) {
            dueNothing("lets of class " + n, none(show -> show.lets(n, 0)));
            dueNothing("lets of beast " + n, none(show -> show.lets(0, n)));
            dueNothing("placed of class " + n, none(show -> show.placed(n, 1)));
            dueNothing("placed at " + n, none(show -> show.placed(0, n)));
            dueNothing("swaps of class " + n, none(show -> show.swaps(n)));
            dueNothing("ring of class " + n, none(show -> show.ring(n, 0)));
            dueNothing("ring, what " + n, none(show -> show.ring(0, n)));
            dueNothing("hour of class " + n, none(show -> show.hour(n)));
            dueNothing("team of sire " + n, none(show -> show.team(n)));
            dueNothing("price of beast " + n, none(show -> show.price(n)));
            dueNothing("look at beast " + n, none(show -> show.look(n, 0)));
            dueNothing("look, what " + n, none(show -> show.look(0, n)));
            dueNothing("count, what " + n, none(show -> show.count(n)));
        }
        dueNothing("ring where there is none", none(show -> show.ring(1, 0)));
        dueNothing("hour of an empty class", none(show -> show.hour(3)));
        dueNothing("team of none", none(show -> show.team(9)));
        dueNothing("what is asked", show -> show.placed(0, 1) + show.swaps(0) + show.ring(0, 0) + show.hour(0)
                + show.team(0) + show.price(0) + show.look(0, 10) + show.count(3) + show.lets(0, 0) >= 0);
    }

    private static void faults() {
        Check.about("a FAULT: 100 times its number and its place (the TEXT stays)");
        for (String text : new String[] {"x", "b3;", "b4", "t0;f200;m0>99;m1<0;b", "f0;f0;f0;f0;f0;f0;f0;t0;b3"}) {
            Consumer<CattleShow> feed = show -> Tapes.feedAll(show, Tapes.bytesOf(text));
            for (int c : new int[] {0, 1, 4}) {
                dueTapeEmpty("text '" + text + "'", feed, show -> show.text(c, text.length()) >= 100);
            }
        }
        Check.about("REASONS about CLASS c, the first n bytes of the tape (empty then)");
        for (String text : new String[] {"", "x", "a>a:0", "b>a:0", "a>b:0;", "a>b:0-1;b>c:22"}) {
            Consumer<CattleShow> feed = show -> Tapes.feedAll(show, Tapes.bytesOf(text + " "));
            dueTapeEmpty("reasons '" + text + "'", feed, show -> show.reasons(1, text.length()) != -1);
        }
    }
}
