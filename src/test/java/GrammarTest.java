/**
 * TEXTS and REASONS byte by byte: behind each beginning all 256 bytes and the end are tried, so that for each
 * sentence of the chapter 'Terms' about them the last byte that can stand there and the first that can't are among these.
 */
final class GrammarTest {
    private static final String DIGITS = "0123456789";
    private static final String EIGHT = "f0;t9;b0;f0;t9;b0;f0;t9";
    private static final String LONGEST = "m0>1234;m1<1234;m2>1234;m0<1234;m1>1234;m2<1234;m0>1234;m1<1234";
    private static final String LONG_PAIRS = "a>b:0000;".repeat(8);

    private GrammarTest() {
    }

    public static void main(String[] args) {
        betweenClauses();
        breeds();
        numbers();
        measures();
        firstFaultOfText();
        eightClauses();
        placesOfPairs();
        sameLetter();
        wrongWayRound();
        terms();
        firstFaultOfReasons();
        longReasons();
        Check.end("GrammarTest");
    }

    private static void dueText(String text, int want) {
        CattleShow show = new CattleShow();
        Check.due("text '" + text + "'", Tapes.text(show, 5, text), want);
        Check.due("tape behind text '" + text + "'", show.count(2), 0);
    }

    /** Of the bytes behind this beginning, a TEXT can end with some, goes on with some, and others are of no number. */
    private static void dueTextBytes(String start, String ends, String goesOn, String noSuch) {
        for (char byteThere = 0; byteThere < 256; byteThere++) {
            String text = start + byteThere;
            if (ends.indexOf(byteThere) >= 0) {
                dueText(text, 0);
            } else if (goesOn.indexOf(byteThere) >= 0) {
                dueText(text, 100 + text.length());
            } else {
                dueText(text, (noSuch.indexOf(byteThere) >= 0 ? 200 : 100) + start.length());
            }
        }
    }

    private static void betweenClauses() {
        Check.about("CLAUSES with a ; (59) between two, no blanks");
        dueText("", 0);
        dueTextBytes("", "", "bftm", "");
        dueTextBytes("f0;", "", "bftm", "");
        dueTextBytes("f0;b1;", "", "bftm", "");
        dueText("f0;t9", 0);
        dueText("f0t9", 102);
        dueText("f0;;t9", 103);
        dueText(";f0", 100);
        dueText("f0;", 103);
        dueText(" f0", 100);
        dueText("f 0", 101);
        dueText("f0 ;t9", 102);
        dueText("f0; t9", 103);
        dueText("f0;t9 ", 105);
    }

    private static void breeds() {
        Check.about("b and BREEDS (digits 0 to 3, one to four)");
        dueText("b", 101);
        dueTextBytes("b", "0123", "", "456789");
        dueTextBytes("b3", "0123", ";", "456789");
        dueTextBytes("b01", "0123", ";", "456789");
        dueTextBytes("b000", "0123", ";", "456789");
        Check.about("a fifth BREED, too");
        dueTextBytes("b0123", "", ";", "");
        dueTextBytes("b3333", "", ";", "");
    }

    private static void numbers() {
        Check.about("Numbers have one to four digits");
        for (String start : new String[] {"f", "t", "m0>", "m0<", "m2>", "m2<"}) {
            dueText(start, 100 + start.length());
            dueTextBytes(start, DIGITS, "", "");
            dueTextBytes(start + "0", DIGITS, ";", "");
            dueTextBytes(start + "999", DIGITS, ";", "");
            Check.about("the end, a fifth digit");
            dueTextBytes(start + "0000", "", ";", "");
            dueTextBytes(start + "9999", "", ";", "");
        }
    }

    private static void measures() {
        Check.about("m, a MEASURE (0 to 2), > or <, and a number");
        dueText("m", 101);
        dueTextBytes("m", "", "012", "3456789");
        for (String start : new String[] {"m0", "m1", "m2"}) {
            dueText(start, 102);
            dueTextBytes(start, "", "<>", "");
        }
    }

    private static void firstFaultOfText() {
        Check.about("FAULTS, the first from the left");
        dueText("b4;x", 201);
        dueText("x;b4", 100);
        dueText("b0;m3;b", 204);
        dueText("b0;f;m3", 104);
        dueText("b9;" + EIGHT + ";f0", 201);
        dueText(EIGHT + ";f0;x", 324);
        Check.about("2 a digit that is no BREED, no MEASURE");
        dueText("b34", 202);
        dueText("b0124", 204);
        dueText("f0;b9", 204);
        dueText("f0;m3>1", 204);
        dueText("f0;m9", 204);
    }

    private static void eightClauses() {
        Check.about("At most 8 CLAUSES: 3 a ninth, at its letter");
        dueText(EIGHT.substring(0, EIGHT.length() - 3), 0);
        dueText(EIGHT, 0);
        dueText(EIGHT + ";", 124);
        for (char byteThere = 0; byteThere < 256; byteThere++) {
            int fault = "bftm".indexOf(byteThere) >= 0 ? 300 : 100;
            dueText(EIGHT + ";" + byteThere, fault + 24);
            dueText(LONGEST + ";" + byteThere, fault + 64);
        }
        dueText(EIGHT + ";f0", 324);
        dueText(EIGHT + ";b9", 324);
        dueText(EIGHT + ";f0;f0", 324);
        dueText(LONGEST, 0);
        dueText(LONGEST + "5", 163);
        dueText(LONGEST + ";m0>1234;m0>1234", 364);
    }

    /** PLACE 1 is BEAST 0 and so on; of MEASURE 0 the first ones have more, of 1 all the same, of 2 the last ones. */
    private static CattleShow showOfPlaces(int places) {
        CattleShow show = Shows.withClass(places);
        for (int b = 0; b < places; b++) {
            show.measure(b, 0, 99 - b);
            show.measure(b, 1, 50);
            show.measure(b, 2, b);
        }
        return show;
    }

    private static void dueReasons(int places, String text, int want) {
        CattleShow show = showOfPlaces(places);
        Check.due("reasons '" + text + "' of " + places, Tapes.reasons(show, 0, text), want);
        Check.due("tape behind reasons '" + text + "'", show.count(2), 0);
    }

    private static boolean hasPoints(int answer) {
        return answer >= 0;
    }

    private static void dueReasonsBytes(int places, String start, String ends, String goesOn, String noSuch) {
        for (char byteThere = 0; byteThere < 256; byteThere++) {
            String text = start + byteThere;
            if (ends.indexOf(byteThere) >= 0) {
                int answer = Tapes.reasons(showOfPlaces(places), 0, text);
                Check.due("points of reasons '" + text + "'", hasPoints(answer), true);
            } else if (goesOn.indexOf(byteThere) >= 0) {
                dueReasons(places, text, -100 - text.length());
            } else {
                dueReasons(places, text, (noSuch.indexOf(byteThere) >= 0 ? -200 : -100) - start.length());
            }
        }
    }

    private static void placesOfPairs() {
        Check.about("a letter (a to h: PLACE 1 to 8), >, another letter");
        dueReasons(3, "", -100);
        dueReasons(3, "a", -101);
        dueReasons(3, "a>", -102);
        dueReasons(3, "a>b", -103);
        dueReasonsBytes(8, "", "", "abcdefgh", "");
        dueReasonsBytes(8, "a", "", ">", "");
        dueReasonsBytes(8, "h", "", ">", "");
        dueReasonsBytes(8, "a>", "", "bcdefgh", "a");
        dueReasonsBytes(8, "g>h", "", ":", "");
        dueReasonsBytes(3, "a>b", "", ":", "");
        Check.about("2 a letter of a PLACE that there is not");
        dueReasonsBytes(0, "", "", "", "abcdefgh");
        dueReasonsBytes(1, "", "", "a", "bcdefgh");
        dueReasonsBytes(3, "", "", "abc", "defgh");
        dueReasonsBytes(7, "", "", "abcdefg", "h");
        dueReasonsBytes(1, "a>", "", "", "abcdefgh");
        dueReasonsBytes(2, "a>", "", "b", "acdefgh");
        dueReasonsBytes(7, "a>", "", "bcdefg", "ah");
        dueReasonsBytes(3, "a>b:0;", "", "abc", "defgh");
        dueReasonsBytes(3, "a>b:0;a>", "", "bc", "adefgh");
        dueReasons(7, "g>h:0", -202);
        dueReasons(8, "g>h:0", 2);
        dueReasons(0, "", -100);
    }

    private static void sameLetter() {
        Check.about("or the same one twice, at it");
        for (char letter = 'a'; letter <= 'h'; letter++) {
            dueReasons(8, letter + ">" + letter + ":0", -202);
            dueReasons(8, letter + ">" + letter, -202);
        }
        dueReasons(2, "a>b:0;b>b:0", -208);
        dueReasons(2, "c>c:0", -200);
    }

    private static void wrongWayRound() {
        Check.about("a PAIR whose first one does not stand ahead of the second one: 3, at its first letter");
        for (char first = 'a'; first <= 'h'; first++) {
            for (char second = 'a'; second <= 'h'; second++) {
                if (first != second) {
                    dueReasons(8, first + ">" + second + ":0", first < second ? 2 : -300);
                }
            }
        }
        dueReasons(3, "a>b:0;b>a:0", -306);
        Check.about("(asked when both letters were read)");
        dueReasons(3, "b>a", -300);
        dueReasons(3, "b>ax", -300);
        dueReasons(3, "b>a:", -300);
        dueReasons(3, "b>a:9", -300);
        dueReasons(3, "b", -101);
        dueReasons(3, "b>", -102);
        dueReasons(3, "b<a", -101);
        dueReasons(3, "b>i", -102);
        dueReasons(3, "b>d", -202);
        dueReasons(3, "d>a", -200);
    }

    private static void terms() {
        Check.about("TERMS (one to four): 0, 1, 2");
        dueReasons(3, "a>b:", -104);
        dueReasons(3, "a>b:;a>b:0", -104);
        dueReasonsBytes(3, "a>b:", "012", "-", "");
        dueReasonsBytes(3, "a>b:0", "012", "-;", "");
        dueReasonsBytes(3, "a>b:210", "012", "-;", "");
        Check.about("or - and one of these");
        dueReasons(3, "a>b:-", -105);
        dueReasonsBytes(3, "a>b:-", "012", "", "");
        dueReasonsBytes(3, "a>b:-0-1-2", "012", "-;", "");
        dueReasonsBytes(3, "a>b:-0-1-2-", "012", "", "");
        Check.about("a fifth TERM, too");
        dueReasonsBytes(3, "a>b:0000", "", ";", "");
        dueReasonsBytes(3, "a>b:-0-1-2-0", "", ";", "");
        dueReasonsBytes(3, "a>b:0;b>c:2222", "", ";", "");
        dueReasons(3, "a>b:00000", -108);
        dueReasons(3, "a>b:0000-0", -108);
        dueReasons(3, "a>b:-0-0-0-0-0", -112);
    }

    private static void firstFaultOfReasons() {
        Check.about("REASONS are a TEXT about a CLASS: PAIRS with a ; between two, no blanks");
        dueReasonsBytes(3, "a>b:0;", "", "abc", "defgh");
        dueReasons(3, "a>b:0;", -106);
        dueReasons(3, "a>b:0;;", -106);
        dueReasons(3, ";a>b:0", -100);
        dueReasons(3, " a>b:0", -100);
        dueReasons(3, "a >b:0", -101);
        dueReasons(3, "a> b:0", -102);
        dueReasons(3, "a>b :0", -103);
        dueReasons(3, "a>b: 0", -104);
        dueReasons(3, "a>b:0 ", -105);
        dueReasons(3, "a>b:- 0", -105);
        dueReasons(3, "a>b:0a>b:0", -105);
        dueReasons(3, "a>a;b>a;x", -202);
        dueReasons(3, "b>a;a>a;x", -300);
        dueReasons(3, "x;b>a;a>a", -100);
    }

    private static void longReasons() {
        Check.about("REASONS about CLASS c, the first n bytes of the tape");
        Check.due("bytes", (LONG_PAIRS + "a>b:0000").length(), 80);
        dueReasons(2, LONG_PAIRS + "a>b:0000", 72);
        dueReasons(2, LONG_PAIRS + "a>b:2222", 64 - 4);
        dueReasons(2, LONG_PAIRS + "a>b:000;", -180);
        dueReasons(2, LONG_PAIRS + "a>b:000-", -180);
        dueReasons(2, LONG_PAIRS + "a>b:000x", -179);
        dueReasons(2, LONG_PAIRS + "b>a:0000", -372);
        dueReasons(2, LONG_PAIRS + "a>a:0000", -274);
        dueReasons(2, LONG_PAIRS + "a>c:0000", -274);
        dueReasons(2, LONG_PAIRS + "c>a:0000", -272);
    }
}
