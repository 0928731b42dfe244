/** For each promise of the document: ordinary inputs, the edges that it names, wrong inputs. */
final class PromiseTest {
    private static final int LOW = Integer.MIN_VALUE;
    private static final int HIGH = Integer.MAX_VALUE;

    private PromiseTest() {
    }

    public static void main(String[] args) {
        newObject();
        feed();
        textThatReads();
        textFaults();
        textAndTape();
        beast();
        measure();
        lets();
        enter();
        protest();
        bar();
        order();
        orderAndChanges();
        placed();
        swaps();
        ring();
        cut();
        card();
        reasonsPoints();
        reasonsFaults();
        sand();
        hour();
        team();
        price();
        look();
        count();
        strangeNumbers();
        Check.end("PromiseTest");
    }

    private static void dueText(String text, int want) {
        Check.due("1/3: text '" + text + "'", Tapes.text(new CattleShow(), 0, text), want);
    }

    private static void newObject() {
        CattleShow show = new CattleShow();
        Check.due("1: NONE", CattleShow.NONE, -1);
        Check.due("1: beasts", show.count(0), 0);
        Check.due("1: sand", show.count(1), 2);
        Check.due("1: tape", show.count(2), 0);
        Check.due("1: last hour", show.count(3), -1);
        Check.due("1: no beast", show.look(0, 0), -1);
        show.beast(3, 200, 9, 9);
        for (int c = 0; c < 6; c++) {
            Check.due("1: entered", show.count(10 + c), 0);
            Check.due("1: orders", show.count(20 + c), 0);
            Check.due("1: empty text", show.lets(c, 0), 1);
        }
        for (int j = 0; j < 6; j++) {
            Check.due("1: not barred", show.bar(j, 0), true);
        }
        CattleShow other = new CattleShow();
        Check.due("1: own memory, beasts", other.count(0), 0);
        other.beast(0, 0, 0, 0);
        Check.due("1: own memory, barred", other.bar(0, 0), true);
    }

    private static void feed() {
        CattleShow show = new CattleShow();
        for (int n = 20; n <= 80; n += 20) {
            Check.due("2: feed", show.feed(0, 0, 0, 0, 0), n);
        }
        Check.due("2: full", show.feed(0, 0, 0, 0, 0), -1);
        Check.due("2: stays", show.count(2), 80);
        show = Shows.withClass(20);
        show.feed(0x07060504, 0x03020100, -1, -1, -1);
        Check.due("2: highest byte first", show.order(0, 0), true);
        Shows.dueRow("2: order as fed", show, 0, 7, 6, 5, 4, 3, 2, 1, 0);
        show.feed(' ' << 24 | ' ' << 16 | ' ' << 8 | ' ', 0, 0, 0, 0);
        show.feed('b' << 24, 0, 0, 0, 0);
        Check.due("2: behind what is there", show.text(0, 20), 100);
        show.feed(0x80818283, 0, 0, 0, 0);
        Check.due("2: bytes above 127 are no beasts", show.order(0, 0), false);
    }

    private static void textThatReads() {
        dueText("", 0);
        dueText("b0", 0);
        dueText("b3210", 0);
        dueText("b0000", 0);
        dueText("f0", 0);
        dueText("f9999", 0);
        dueText("t0000", 0);
        dueText("m0>0", 0);
        dueText("m2<9999", 0);
        dueText("b0;b1;f1;f2;t3;t4;m0>1;m1<2", 0);
        dueText("m0>1234;m0>1234;m0>1234;m0>1234;m0>1234;m0>1234;m0>1234;m0>1234", 0);
    }

    private static void textFaults() {
        dueText(" ", 100);
        dueText(";", 100);
        dueText("0", 100);
        dueText("B0", 100);
        dueText("b", 101);
        dueText("b;", 101);
        dueText("bb", 101);
        dueText("b4", 201);
        dueText("b04", 202);
        dueText("b0a", 102);
        dueText("b01230", 105);
        dueText("b01239", 105);
        dueText("b0;", 103);
        dueText("b0;;", 103);
        dueText("b0 ;f1", 102);
        dueText("f", 101);
        dueText("f-1", 101);
        dueText("f12345", 105);
        dueText("t", 101);
        dueText("t1,", 102);
        dueText("t12345", 105);
        dueText("m", 101);
        dueText("m>1", 101);
        dueText("m3", 201);
        dueText("m9x", 201);
        dueText("m0", 102);
        dueText("m0=1", 102);
        dueText("m0>", 103);
        dueText("m0><", 103);
        dueText("m0>12345", 107);
        dueText("m0<1;b5;x", 206);
        String eight = "f0;f0;f0;f0;f0;f0;f0;f0";
        dueText(eight, 0);
        dueText(eight + ";", 124);
        dueText(eight + ";f", 324);
        dueText(eight + ";b0", 324);
        dueText(eight + ";t9", 324);
        dueText(eight + ";m9", 324);
        dueText(eight + ";x", 124);
        dueText(eight + "x", 123);
    }

    private static void textAndTape() {
        CattleShow show = Shows.of(2);
        Tapes.feedAll(show, Tapes.bytesOf("b1"));
        Check.due("3: no such class", show.text(6, 2), -1);
        Check.due("3: no such class below", show.text(-1, 2), -1);
        Check.due("3: not so many", show.text(0, 21), -1);
        Check.due("3: below none", show.text(0, -1), -1);
        Check.due("3: the tape stays", show.count(2), 20);
        Check.due("3: all bytes, blanks too", show.text(0, 20), 102);
        Check.due("3: the tape is empty after a fault", show.count(2), 0);
        Check.due("3: the text stays", show.lets(0, 0), 1);
        Check.due("3: reads", Tapes.text(show, 0, "b1"), 0);
        Check.due("3: the tape is empty", show.count(2), 0);
        Check.due("3: new text", show.lets(0, 0), 0);
        Check.due("3: of this class alone", show.lets(1, 0), 1);
        Check.due("3: fault", Tapes.text(show, 0, "b0;x"), 103);
        Check.due("3: text stays after a fault late in it", show.lets(0, 0), 0);
        Check.due("3: text stays after a fault late in it", show.lets(0, 1), 1);
        Tapes.feedAll(show, 'x');
        Check.due("3: empty text", show.text(0, 0), 0);
        Check.due("3: the tape is empty after an empty text", show.count(2), 0);
        Check.due("3: empty text lets all in", show.lets(0, 0), 1);
        Tapes.text(show, 1, "b3;f99;t0;m0>5;m1<0;x");
        Check.due("3: nothing of a faulty text is left in the next one", Tapes.text(show, 1, "b01"), 0);
        Check.due("3: nothing of a faulty text is left in the next one", show.lets(1, 0), 1);
        Check.due("3: nothing of a faulty text is left in the next one", show.lets(1, 1), 1);
        String whole = "f0;f1;f2;f3;m0<9999;m0<9999;m0<9999;m0<9999";
        Tapes.feedAll(show, Tapes.bytesOf(whole + "                                     "));
        Check.due("3: eighty bytes", show.count(2), 80);
        Check.due("3: all of them", show.text(0, 80), 100 + whole.length());
    }

    private static void beast() {
        CattleShow show = new CattleShow();
        Check.due("4: breed", show.beast(4, 0, 0, 0), -1);
        Check.due("4: breed below", show.beast(-1, 0, 0, 0), -1);
        Check.due("4: age", show.beast(0, 201, 0, 0), -1);
        Check.due("4: age below", show.beast(0, -1, 0, 0), -1);
        Check.due("4: sire", show.beast(0, 0, 10, 0), -1);
        Check.due("4: sire below", show.beast(0, 0, -1, 0), -1);
        Check.due("4: handler", show.beast(0, 0, 0, 10), -1);
        Check.due("4: handler below", show.beast(0, 0, 0, -1), -1);
        Check.due("4: none came of these", show.count(0), 0);
        Check.due("4: highest", show.beast(3, 200, 9, 9), 0);
        for (int m = 0; m < 3; m++) {
            Check.due("4: measures", show.look(0, 4 + m), 0);
        }
        for (int b = 1; b < 20; b++) {
            Check.due("4: number", show.beast(0, 0, 0, 0), b);
        }
        Check.due("4: twenty are there", show.beast(0, 0, 0, 0), -1);
        Check.due("4: still twenty", show.count(0), 20);
    }

    private static void measure() {
        CattleShow show = Shows.of(2);
        Check.due("5: no such beast", show.measure(2, 0, 1), false);
        Check.due("5: no such beast below", show.measure(-1, 0, 1), false);
        Check.due("5: no such measure", show.measure(0, 3, 1), false);
        Check.due("5: no such measure below", show.measure(0, -1, 1), false);
        Check.due("5: too high", show.measure(0, 0, 100), false);
        Check.due("5: too low", show.measure(0, 0, -1), false);
        Check.due("5: nothing came of these", show.look(0, 4), 0);
        Check.due("5: highest", show.measure(0, 0, 99), true);
        Check.due("5: another", show.measure(0, 2, 7), true);
        Check.due("5: kept", show.look(0, 4), 99);
        Check.due("5: kept", show.look(0, 5), 0);
        Check.due("5: kept", show.look(0, 6), 7);
        Check.due("5: of this beast alone", show.look(1, 4), 0);
        Check.due("5: lowest", show.measure(0, 0, 0), true);
        Check.due("5: changed", show.look(0, 4), 0);
    }

    private static void dueLets(String text, int want) {
        CattleShow show = new CattleShow();
        show.beast(2, 30, 0, 0);
        show.measure(0, 0, 50);
        show.measure(0, 1, 0);
        show.measure(0, 2, 99);
        Tapes.text(show, 5, text);
        Check.due("6: lets by '" + text + "'", show.lets(5, 0), want);
    }

    private static void lets() {
        dueLets("b2", 1);
        dueLets("b013", 0);
        dueLets("b0132", 1);
        dueLets("b02;b12", 1);
        dueLets("b2;b1", 0);
        dueLets("f30", 1);
        dueLets("f31", 0);
        dueLets("f0031", 0);
        dueLets("f1;f31", 0);
        dueLets("f31;f1", 0);
        dueLets("t30", 1);
        dueLets("t29", 0);
        dueLets("t29;t99", 0);
        dueLets("t99;t29", 0);
        dueLets("m0>49", 1);
        dueLets("m0>50", 0);
        dueLets("m0<51", 1);
        dueLets("m0<50", 0);
        dueLets("m1>0", 0);
        dueLets("m1<1", 1);
        dueLets("m1<0", 0);
        dueLets("m2>98;m2<100;m0>1;f1;t100;b2", 1);
        dueLets("m2>99", 0);
        dueLets("m2<9999", 1);
        CattleShow show = Shows.of(1);
        Check.due("6: no such class", show.lets(6, 0), -1);
        Check.due("6: no such class below", show.lets(-1, 0), -1);
        Check.due("6: no such beast", show.lets(0, 1), -1);
        Check.due("6: no such beast below", show.lets(0, -1), -1);
    }

    private static void enter() {
        CattleShow show = Shows.of(12);
        Check.due("7: no such class", show.enter(6, 0), false);
        Check.due("7: no such class below", show.enter(-1, 0), false);
        Check.due("7: no such beast", show.enter(0, 12), false);
        Check.due("7: no such beast below", show.enter(0, -1), false);
        Tapes.text(show, 0, "f10");
        Check.due("7: not let in", show.enter(0, 0), false);
        Check.due("7: none came of these", show.count(10), 0);
        Check.due("7: let in", show.enter(0, 1), true);
        Check.due("7: it is", show.enter(0, 1), false);
        Check.due("7: another class too", show.enter(1, 1), true);
        Tapes.text(show, 0, "t0");
        Check.due("7: it stays by another text", show.count(10), 1);
        Check.due("7: the new text counts", show.enter(0, 0), true);
        Check.due("7: the new text counts", show.enter(0, 2), false);
        Tapes.text(show, 0, "");
        for (int b = 2; b < 8; b++) {
            Check.due("7: up to eight", show.enter(0, b), true);
        }
        Check.due("7: a ninth", show.enter(0, 8), false);
        Check.due("7: eight", show.count(10), 8);
        show.protest(0, 3);
        Check.due("7: out", show.enter(0, 3), false);
        Check.due("7: room again", show.enter(0, 8), true);
        Check.due("7: full again", show.enter(0, 9), false);
        Check.due("7: out of one class alone", show.enter(1, 3), true);
    }

    private static void protest() {
        CattleShow show = Shows.withClass(3);
        Check.due("8: no such class", show.protest(6, 0), false);
        Check.due("8: no such class below", show.protest(-1, 0), false);
        Check.due("8: no such beast", show.protest(0, 3), false);
        Check.due("8: no such beast below", show.protest(0, -1), false);
        Check.due("8: no beast by a shift", show.protest(0, 32), false);
        Check.due("8: not entered there", show.protest(1, 0), false);
        Check.due("8: may be entered there yet", show.enter(1, 0), true);
        Check.due("8: taken out", show.protest(0, 0), true);
        Check.due("8: is out", show.protest(0, 0), false);
        Check.due("8: for good", show.enter(0, 0), false);
        Check.due("8: stays in others", show.look(0, 11), 1);
        Shows.dueRow("8: who stands behind moves up", show, 0, 1, 2);
        Check.due("8: is not entered", show.look(0, 10), -1);
        Check.due("8: fewer", show.count(10), 2);
    }

    private static void bar() {
        CattleShow show = Shows.withClass(3);
        Check.due("9: no such judge", show.bar(6, 0), false);
        Check.due("9: no such judge below", show.bar(-1, 0), false);
        Check.due("9: no such beast", show.bar(0, 3), false);
        Check.due("9: no such beast below", show.bar(0, -1), false);
        Check.due("9: order before", Tapes.order(show, 0, 0, 2, 1, 0), true);
        Check.due("9: barred", show.bar(0, 1), true);
        Check.due("9: was told", show.bar(0, 1), false);
        Check.due("9: of another beast", show.bar(0, 2), true);
        Check.due("9: another judge", show.bar(1, 1), true);
        Check.due("9: orders told before stay", show.count(20), 1);
        Shows.dueRow("9: orders told before stay", show, 0, 2, 1, 0);
        Check.due("9: can tell none", Tapes.order(show, 0, 0, 0, 1, 2), false);
        Shows.dueRow("9: the former stays", show, 0, 2, 1, 0);
        show.protest(0, 1);
        show.protest(0, 2);
        Check.due("9: not from who is left", Tapes.order(show, 0, 0, 0), true);
    }

    private static void order() {
        CattleShow show = Shows.withClass(3);
        Check.due("10: no bytes", show.order(0, 0), false);
        Tapes.feedAll(show, 2, 0, 1);
        Check.due("10: no such judge", show.order(6, 0), false);
        Check.due("10: no such judge below", show.order(-1, 0), false);
        Check.due("10: no such class", show.order(0, 6), false);
        Check.due("10: no such class below", show.order(0, -1), false);
        Check.due("10: none is entered", show.order(0, 1), false);
        Check.due("10: the tape stays", show.count(2), 20);
        Check.due("10: told", show.order(0, 0), true);
        Check.due("10: the tape is empty", show.count(2), 0);
        Shows.dueRow("10: told", show, 0, 2, 0, 1);
        show.bar(1, 0);
        Check.due("10: barred without bytes", show.order(1, 0), false);
        Check.due("10: barred", Tapes.order(show, 1, 0, 0, 1, 2), false);
        Check.due("10: the tape is empty after barred", show.count(2), 0);
        Check.due("10: twice the same", Tapes.order(show, 0, 0, 0, 1, 1), false);
        Check.due("10: the tape is empty after no row", show.count(2), 0);
        Check.due("10: not entered", Tapes.order(show, 0, 0, 0, 1, 3), false);
        Check.due("10: no beast by a shift", Tapes.order(show, 0, 0, 32, 1, 2), false);
        Check.due("10: no beast by a shift", Tapes.order(show, 0, 0, 0, 1, 2 + 32), false);
        Check.due("10: 255", Tapes.order(show, 0, 0, 0, 1, 255), false);
        Shows.dueRow("10: the former stays", show, 0, 2, 0, 1);
        Check.due("10: told anew", Tapes.order(show, 0, 0, 1, 0, 2, 99, 99), true);
        Shows.dueRow("10: told anew", show, 0, 1, 0, 2);
        Check.due("10: one for each judge", show.count(20), 1);
    }

    private static void orderAndChanges() {
        CattleShow show = Shows.withClass(4);
        Tapes.order(show, 0, 0, 3, 2, 1, 0);
        show.protest(0, 2);
        Check.due("10: counts still", show.count(20), 1);
        Shows.dueRow("10: who is out is left out", show, 0, 3, 1, 0);
        Check.due("10: as many as are left", Tapes.order(show, 1, 0, 3, 0, 1), true);
        Check.due("10: both count", show.count(20), 2);
        Check.due("10: swaps of both", show.swaps(0), 1);
        show.beast(0, 0, 0, 0);
        show.enter(0, 2);
        Check.due("10: a refused entry ends none", show.count(20), 2);
        show.enter(0, 4);
        Check.due("10: no more once one is entered", show.count(20), 0);
        Shows.dueRow("10: without orders by numbers", show, 0, 0, 1, 3, 4);
        Tapes.order(show, 0, 0, 0, 1, 4, 3);
        show.enter(1, 0);
        Check.due("10: entries of other classes end none", show.count(20), 1);
        for (int b = 0; b < 5; b++) {
            show.protest(0, b);
        }
        Check.due("10: counts even if none is left", show.count(20), 1);
        Check.due("10: none is left", show.count(10), 0);
        Tapes.feedAll(show, 0);
        Check.due("10: none is entered any more", show.order(0, 0), false);
        Check.due("10: the tape stays", show.count(2), 20);
    }

    private static void placed() {
        CattleShow show = Shows.withClass(4);
        Check.due("11: no such class", show.placed(6, 1), -1);
        Check.due("11: no such class below", show.placed(-1, 1), -1);
        Check.due("11: place 0", show.placed(0, 0), -1);
        Check.due("11: below", show.placed(0, -1), -1);
        Check.due("11: empty class", show.placed(1, 1), -1);
        Shows.dueRow("11: without orders", show, 0, 0, 1, 2, 3);
        Tapes.order(show, 0, 0, 1, 0, 2, 3);
        Shows.dueRow("11: one order", show, 0, 1, 0, 2, 3);
        Tapes.order(show, 1, 0, 3, 2, 0, 1);
        Shows.dueRow("11: the least of like ones", show, 0, 0, 1, 2, 3);
        Tapes.order(show, 2, 0, 3, 2, 0, 1);
        Shows.dueRow("11: by most", show, 0, 3, 2, 0, 1);
        CattleShow high = Shows.of(20);
        high.enter(5, 19);
        high.enter(5, 7);
        high.enter(5, 13);
        Shows.dueRow("11: by numbers, not by entry", high, 5, 7, 13, 19);
    }

    private static void swaps() {
        CattleShow show = Shows.withClass(4);
        Check.due("12: no such class", show.swaps(6), -1);
        Check.due("12: no such class below", show.swaps(-1), -1);
        Check.due("12: empty class", show.swaps(1), 0);
        Check.due("12: no orders", show.swaps(0), 0);
        Tapes.order(show, 0, 0, 3, 2, 1, 0);
        Check.due("12: one order", show.swaps(0), 0);
        Tapes.order(show, 1, 0, 0, 1, 2, 3);
        Check.due("12: all the other way round", show.swaps(0), 6);
        Tapes.order(show, 2, 0, 0, 1, 3, 2);
        Check.due("12: three orders", show.swaps(0), 6);
        show.protest(0, 0);
        Check.due("12: without who is out", show.swaps(0), 3);
    }

    private static void ring() {
        CattleShow show = Shows.withClass(5);
        Check.due("13: no orders", show.ring(0, 0), -1);
        Tapes.order(show, 0, 0, 4, 2, 3, 0, 1);
        Check.due("13: one order", show.ring(0, 0), -1);
        Tapes.order(show, 1, 0, 3, 4, 2, 0, 1);
        Tapes.order(show, 2, 0, 2, 3, 4, 0, 1);
        int[] ring = {2, 3, 4};
        for (int what = 0; what < 3; what++) {
            Check.due("13: ring", show.ring(0, what), ring[what]);
        }
        Check.due("13: no such what", show.ring(0, 3), -1);
        Check.due("13: no such what below", show.ring(0, -1), -1);
        Check.due("13: no such class", show.ring(6, 0), -1);
        Check.due("13: no such class below", show.ring(-1, 0), -1);
        Check.due("13: other class", show.ring(1, 0), -1);
        Tapes.order(show, 3, 0, 2, 4, 3, 1, 0);
        Check.due("13: as often behind as ahead is not ahead", show.ring(0, 0), -1);
        CattleShow other = Shows.withClass(3);
        Tapes.order(other, 0, 0, 0, 2, 1);
        Tapes.order(other, 1, 0, 2, 1, 0);
        Tapes.order(other, 2, 0, 1, 0, 2);
        int[] otherRing = {0, 2, 1};
        for (int what = 0; what < 3; what++) {
            Check.due("13: the other way round", other.ring(0, what), otherRing[what]);
        }
        other.protest(0, 1);
        Check.due("13: no ring of two", other.ring(0, 0), -1);
    }

    private static void cut() {
        CattleShow show = Shows.withClass(4);
        Check.due("14: no such class", show.cut(6, 1, 1), false);
        Check.due("14: no such class below", show.cut(-1, 1, 1), false);
        Check.due("14: no such place", show.cut(0, 0, 1), false);
        Check.due("14: no such place", show.cut(0, 4, 1), false);
        Check.due("14: too low", show.cut(0, 1, -1), false);
        Check.due("14: too high", show.cut(0, 1, 16), false);
        Check.due("14: three at first", Tapes.card(show, 0, 1, 0, 2, 3), 47);
        Check.due("14: three at first", Tapes.card(show, 0, 0, 2, 1, 3), 47);
        Check.due("14: three at first", Tapes.card(show, 0, 0, 1, 3, 2), 47);
        Check.due("14: highest", show.cut(0, 1, 15), true);
        Check.due("14: lowest", show.cut(0, 2, 0), true);
        Check.due("14: another", show.cut(0, 3, 7), true);
        Check.due("14: first", Tapes.card(show, 0, 1, 0, 2, 3), 35);
        Check.due("14: second", Tapes.card(show, 0, 0, 2, 1, 3), 50);
        Check.due("14: third", Tapes.card(show, 0, 0, 1, 3, 2), 43);
        Check.due("14: an empty class too", show.cut(5, 3, 1), true);
        show.enter(1, 0);
        show.enter(1, 1);
        Check.due("14: of this class alone", Tapes.card(show, 1, 1, 0), 47);
    }

    private static void card() {
        CattleShow show = Shows.withClass(6);
        Check.due("15: no bytes", show.card(0), -1);
        Tapes.feedAll(show, 0, 1, 2, 3);
        Check.due("15: no such class", show.card(6), -1);
        Check.due("15: no such class below", show.card(-1), -1);
        Check.due("15: none entered", show.card(1), -1);
        show.enter(1, 0);
        Check.due("15: one entered", show.card(1), -1);
        Check.due("15: the tape stays", show.count(2), 20);
        Check.due("15: all right", show.card(0), 50);
        Check.due("15: the tape is empty", show.count(2), 0);
        Check.due("15: of the first four alone", Tapes.card(show, 0, 0, 1, 2, 4), -1);
        Check.due("15: the tape is empty after no row", show.count(2), 0);
        Check.due("15: twice", Tapes.card(show, 0, 0, 1, 2, 2), -1);
        Check.due("15: no beast by a shift", Tapes.card(show, 0, 32, 1, 2, 3), -1);
        show.cut(0, 1, 1);
        show.cut(0, 2, 2);
        show.cut(0, 3, 4);
        Check.due("15: first last", Tapes.card(show, 0, 1, 2, 3, 0), 50 - 1 - 3 - 7);
        Check.due("15: last first", Tapes.card(show, 0, 3, 0, 1, 2), 50 - 7 - 6 - 4);
        Check.due("15: all round", Tapes.card(show, 0, 3, 2, 1, 0), 50 - 1 - 2 - 4 - 3 - 6 - 7);
        Tapes.order(show, 0, 0, 5, 4, 3, 2, 1, 0);
        Check.due("15: by the joined order", Tapes.card(show, 0, 4, 5, 3, 2), 49);
        show.enter(1, 1);
        Check.due("15: two", Tapes.card(show, 1, 1, 0), 47);
        show.enter(1, 2);
        Check.due("15: three", Tapes.card(show, 1, 2, 1, 0), 38);
        Check.due("15: behind a card nothing counts", Tapes.card(show, 1, 0, 1, 2, 0), 50);
        show.cut(1, 1, 15);
        show.cut(1, 2, 15);
        Check.due("15: zero at least", Tapes.card(show, 1, 2, 1, 0), 0);
    }

    /** Places 1, 2, 3 are beasts 2, 1, 0, with measure 0: 30, 20, 10; 1: all 5; 2: 1, 2, 3. */
    private static CattleShow showForReasons() {
        CattleShow show = Shows.withClass(3);
        Tapes.order(show, 0, 0, 2, 1, 0);
        for (int b = 0; b < 3; b++) {
            show.measure(b, 0, 10 + 10 * b);
            show.measure(b, 1, 5);
            show.measure(b, 2, 3 - b);
        }
        return show;
    }

    private static void dueReasons(String text, int want) {
        CattleShow show = showForReasons();
        Check.due("16: reasons '" + text + "'", Tapes.reasons(show, 0, text), want);
        Check.due("16: the tape is empty", show.count(2), 0);
    }

    private static void reasonsPoints() {
        dueReasons("a>b:0", 2);
        dueReasons("a>b:-2", 2);
        dueReasons("a>c:0-2", 4);
        dueReasons("a>b:00", 4);
        dueReasons("a>b:0000", 8);
        dueReasons("b>c:1", 0);
        dueReasons("a>b:00-1", 3);
        dueReasons("a>b:001", 3);
        dueReasons("a>b:2", 0);
        dueReasons("a>b:-0;a>b:0", 1);
        dueReasons("a>b:1111;a>b:0;a>b:0", 0);
        dueReasons("a>b:0;b>c:-2;a>c:0-20-2", 12);
        dueReasons("a>b:0;a>b:0;a>b:0", 6);
    }

    private static void reasonsFaults() {
        dueReasons("", -100);
        dueReasons("i>b:0", -100);
        dueReasons("A>b:0", -100);
        dueReasons(" a>b:0", -100);
        dueReasons("d>b:0", -200);
        dueReasons("h", -200);
        dueReasons("a", -101);
        dueReasons("a<b:0", -101);
        dueReasons("a>", -102);
        dueReasons("a>i:0", -102);
        dueReasons("a>d:0", -202);
        dueReasons("a>a:0", -202);
        dueReasons("c>a:0", -300);
        dueReasons("b>a", -300);
        dueReasons("b>ax", -300);
        dueReasons("b>d", -202);
        dueReasons("a>b", -103);
        dueReasons("a>b;", -103);
        dueReasons("a>b:", -104);
        dueReasons("a>b:;", -104);
        dueReasons("a>b:3", -104);
        dueReasons("a>b:-", -105);
        dueReasons("a>b:--", -105);
        dueReasons("a>b:-3", -105);
        dueReasons("a>b:03", -105);
        dueReasons("a>b:0 ", -105);
        dueReasons("a>b:0;", -106);
        dueReasons("a>b:0;;", -106);
        dueReasons("a>b:00000", -108);
        dueReasons("a>b:-0-0-0-0-0", -112);
        dueReasons("a>b:0;b>c:0;b>a:0", -312);
        dueReasons("a>b:0;b>b:0", -208);
        CattleShow show = showForReasons();
        Check.due("16: points of these reasons", Tapes.reasons(show, 0, "a>b:00"), 4);
        Check.due("16: points of these reasons alone", Tapes.reasons(show, 0, "a>b:0"), 2);
        Tapes.feedAll(show, Tapes.bytesOf("a>b:0"));
        Check.due("16: no such class", show.reasons(6, 5), -1);
        Check.due("16: no such class below", show.reasons(-1, 5), -1);
        Check.due("16: not so many", show.reasons(0, 21), -1);
        Check.due("16: below none", show.reasons(0, -1), -1);
        Check.due("16: the tape stays", show.count(2), 20);
        Check.due("16: an empty class has no place", show.reasons(1, 5), -200);
        CattleShow eight = Shows.withClass(8);
        eight.measure(0, 0, 1);
        Check.due("16: eight places", Tapes.reasons(eight, 0, "a>h:0"), 2);
        eight.protest(0, 5);
        Check.due("16: seven places", Tapes.reasons(eight, 0, "a>h:0"), -202);
    }

    private static void sand() {
        CattleShow show = new CattleShow();
        Check.due("17: too few", show.sand(0), false);
        Check.due("17: too many", show.sand(4), false);
        Check.due("17: below", show.sand(-1), false);
        Check.due("17: stays", show.count(1), 2);
        for (int n = 1; n <= 3; n++) {
            Check.due("17: sand", show.sand(n), true);
            Check.due("17: kept", show.count(1), n);
        }
    }

    private static void hour() {
        CattleShow show = Shows.of(12);
        Check.due("18: no such class", show.hour(6), -1);
        Check.due("18: no such class below", show.hour(-1), -1);
        Shows.dueHours(show, -1, -1, -1, -1, -1, -1);
        show.enter(1, 0);
        show.enter(2, 1);
        show.enter(4, 2);
        Shows.dueHours(show, -1, 0, 0, -1, 1, -1);
        show.sand(3);
        Shows.dueHours(show, -1, 0, 0, -1, 0, -1);
        show.sand(1);
        Shows.dueHours(show, -1, 0, 1, -1, 2, -1);
        show.sand(3);
        show.enter(5, 10);
        Shows.dueHours(show, -1, 0, 0, -1, 0, 1);
        show.protest(5, 10);
        Shows.dueHours(show, -1, 0, 0, -1, 0, -1);
        CattleShow late = Shows.of(10);
        // Classes 0, 1 in one hour would leave 2 and 3 three hours in all: they can't go together,
        // and neither goes with both.
        late.enter(0, 0);
        late.enter(1, 1);
        late.enter(2, 0);
        late.enter(2, 2);
        late.enter(3, 1);
        late.enter(3, 2);
        Shows.dueHours(late, 0, 1, 1, 0, -1, -1);
        Check.due("18: last", late.count(3), 1);
        CattleShow same = Shows.of(1);
        for (int c = 0; c < 6; c++) {
            same.enter(c, 0);
        }
        Shows.dueHours(same, 0, 1, 2, 3, 4, 5);
    }

    private static void team() {
        CattleShow show = new CattleShow();
        for (int b = 0; b < 8; b++) {
            show.beast(0, 0, b < 4 ? 3 : 9, 0);
        }
        Check.due("19: no such sire", show.team(10), -1);
        Check.due("19: no such sire below", show.team(-1), -1);
        Check.due("19: none entered", show.team(3), -1);
        show.enter(0, 0);
        show.enter(0, 1);
        show.enter(1, 0);
        show.enter(1, 1);
        Check.due("19: a beast counts once", show.team(3), -1);
        show.enter(0, 2);
        Check.due("19: three of one class", show.team(3), 1 + 2 + 3);
        show.enter(2, 2);
        Check.due("19: by its least place", show.team(3), 1 + 2 + 1);
        show.enter(3, 3);
        Check.due("19: the three least", show.team(3), 1 + 1 + 1);
        Check.due("19: another sire", show.team(9), -1);
        for (int b = 4; b < 8; b++) {
            show.enter(0, b);
        }
        Check.due("19: places behind others", show.team(9), 4 + 5 + 6);
        show.protest(0, 1);
        Check.due("19: moved up", show.team(9), 3 + 4 + 5);
        CattleShow full = new CattleShow();
        for (int b = 0; b < 8; b++) {
            full.beast(0, 0, b < 5 ? 0 : 1, 0);
            full.enter(0, b);
        }
        Check.due("19: the last places", full.team(1), 6 + 7 + 8);
    }

    private static void price() {
        CattleShow show = Shows.withClass(8);
        int[] prices = {150, 125, 116, 112, 110, 108, 107, 106};
        for (int b = 0; b < 8; b++) {
            Check.due("20: price of place " + (b + 1), show.price(b), prices[b]);
        }
        Check.due("20: no such beast", show.price(8), -1);
        Check.due("20: no such beast below", show.price(-1), -1);
        show.enter(1, 0);
        show.enter(1, 1);
        show.enter(1, 2);
        Check.due("20: each rounded down", show.price(2), 100 + 16 + 16);
        show.protest(0, 2);
        Check.due("20: not for who is out", show.price(2), 116);
        Check.due("20: moved up", show.price(3), 116);
    }

    private static void look() {
        CattleShow show = new CattleShow();
        show.beast(3, 77, 5, 8);
        show.measure(0, 0, 11);
        show.measure(0, 1, 22);
        show.measure(0, 2, 33);
        int[] want = {3, 77, 5, 8, 11, 22, 33, 0, -1, -1, -1, -1, -1, -1, -1, -1, -1};
        for (int what = 0; what < want.length; what++) {
            Check.due("21: look " + what, show.look(0, what), want[what]);
        }
        show.beast(0, 0, 0, 0);
        show.enter(0, 0);
        show.enter(5, 1);
        show.enter(5, 0);
        Tapes.order(show, 0, 5, 1, 0);
        Check.due("21: in how many", show.look(0, 7), 2);
        Check.due("21: place", show.look(0, 10), 1);
        Check.due("21: place", show.look(0, 15), 2);
        Check.due("21: no place", show.look(1, 10), -1);
        Check.due("21: below", show.look(0, -1), -1);
        Check.due("21: above", show.look(0, 16), -1);
        Check.due("21: no such beast", show.look(2, 0), -1);
        Check.due("21: no such beast below", show.look(-1, 0), -1);
    }

    private static void count() {
        CattleShow show = Shows.withClass(5);
        Tapes.order(show, 0, 0, 0, 1, 2, 3, 4);
        Tapes.order(show, 5, 0, 0, 1, 2, 3, 4);
        Tapes.feedAll(show, 0);
        show.sand(3);
        Check.due("22: beasts", show.count(0), 5);
        Check.due("22: sand", show.count(1), 3);
        Check.due("22: tape", show.count(2), 20);
        Check.due("22: last hour", show.count(3), 0);
        show.enter(5, 0);
        Check.due("22: last hour", show.count(3), 1);
        Check.due("22: entered", show.count(10), 5);
        Check.due("22: entered", show.count(15), 1);
        Check.due("22: orders", show.count(20), 2);
        Check.due("22: orders", show.count(25), 0);
        int[] others = {-1, 4, 5, 9, 16, 19, 26, 100};
        for (int what : others) {
            Check.due("22: " + what, show.count(what), -1);
        }
    }

    private static void strangeNumbers() {
        for (int n : new int[] {LOW, LOW + 1, -100, -32, 32, 64, 100, HIGH - 1, HIGH}) {
            CattleShow show = Shows.withClass(2);
            Tapes.feedAll(show, 0, 1);
            long sum = 0;
            sum += show.text(n, 0) + show.text(0, n) + show.beast(n, 0, 0, 0) + show.beast(0, 0, n, 0);
            sum += show.beast(0, 0, 0, n) + show.lets(n, 0) + show.lets(0, n) + show.placed(n, 1);
            sum += show.placed(0, n) + show.swaps(n) + show.ring(n, 0) + show.ring(0, n) + show.card(n);
            sum += show.reasons(n, 1) + show.reasons(0, n) + show.hour(n) + show.team(n) + show.price(n);
            sum += show.look(n, 0) + show.look(0, n) + show.count(n);
            Check.due("a strange number is none: " + n, sum, -21);
            boolean any = show.measure(n, 0, 0) || show.measure(0, n, 0) || show.enter(n, 0) || show.enter(0, n);
            any |= show.protest(n, 0) || show.protest(0, n) || show.bar(n, 0) || show.bar(0, n);
            any |= show.order(n, 0) || show.order(0, n) || show.cut(n, 1, 1) || show.cut(0, n, 1);
            any |= show.cut(0, 1, n) || show.sand(n);
            Check.due("a strange number is refused: " + n, any, false);
            Check.due("the tape stays", show.count(2), 20);
            Check.due("the beasts stay", show.count(0), 2);
        }
    }
}
