import java.util.ArrayList;
import java.util.List;
import java.util.function.Consumer;

/**
 * Asks two shows everything that can be asked, and calls that bring out what is hidden: the bytes of the tape, CUTS,
 * who is BARRED or out, ORDERS behind THE JOINED ONE, TEXTS. Each part is asked of shows made anew, for a show takes
 * 512 calls at most and the later parts change it.
 */
final class Twins {
    private static final List<Twins> PARTS = List.of(
            new Twins("count", Twins::counts), new Twins("look", Twins::looks), new Twins("asked", Twins::answers),
            new Twins("tape as text", Twins::tapeAsText), new Twins("tape as reasons", Twins::tapeAsReasons),
            new Twins("tape as order", Twins::tapeAsOrder), new Twins("tape as card", Twins::tapeAsCard),
            new Twins("room on the tape", Twins::feeds), new Twins("room for beasts", Twins::beasts),
            new Twins("who can enter", Twins::enters), new Twins("who is barred", Twins::bars),
            new Twins("orders", Twins::protests), new Twins("cuts", Twins::cards), new Twins("texts", Twins::texts));

    private final String name;
    private final Asked part;

    private interface Asked {
        void of(CattleShow show, List<Integer> answers);
    }

    private Twins(String name, Asked part) {
        this.name = name;
        this.part = part;
    }

    static void dueAlike(String what, Consumer<CattleShow> calls, Consumer<CattleShow> otherCalls) {
        for (Twins twins : PARTS) {
            List<Integer> got = twins.answersBehind(calls);
            List<Integer> want = twins.answersBehind(otherCalls);
            Check.due(what + ", then " + twins.name + ", how many answers", got.size(), want.size());
            for (int i = 0; i < Math.min(got.size(), want.size()); i++) {
                Check.due(what + ", then " + twins.name + ", answer " + i, got.get(i), want.get(i));
            }
        }
    }

    private List<Integer> answersBehind(Consumer<CattleShow> calls) {
        CattleShow show = new CattleShow();
        calls.accept(show);
        List<Integer> answers = new ArrayList<>();
        part.of(show, answers);
        return answers;
    }

    private static int number(boolean answer) {
        return answer ? 1 : 0;
    }

    private static void counts(CattleShow show, List<Integer> answers) {
        for (int what = 0; what <= 25; what++) {
            answers.add(show.count(what));
        }
    }

    private static void looks(CattleShow show, List<Integer> answers) {
        for (int b = 0; b < 20; b++) {
            for (int what = 0; what <= 15; what++) {
                answers.add(show.look(b, what));
            }
        }
    }

    private static void answers(CattleShow show, List<Integer> answers) {
        for (int c = 0; c < 6; c++) {
            for (int b = 0; b < 20; b++) {
                answers.add(show.lets(c, b));
            }
            for (int place = 1; place <= 8; place++) {
                answers.add(show.placed(c, place));
            }
            for (int what = 0; what < 3; what++) {
                answers.add(show.ring(c, what));
            }
            answers.add(show.swaps(c));
            answers.add(show.hour(c));
        }
        for (int n = 0; n < 20; n++) {
            answers.add(show.team(n));
            answers.add(show.price(n));
        }
    }

    private static void tapeAsText(CattleShow show, List<Integer> answers) {
        answers.add(show.text(4, show.count(2)));
        for (int b = 0; b < 20; b++) {
            answers.add(show.lets(4, b));
        }
    }

    private static void tapeAsReasons(CattleShow show, List<Integer> answers) {
        answers.add(show.reasons(1, show.count(2)));
    }

    private static void tapeAsOrder(CattleShow show, List<Integer> answers) {
        answers.add(number(show.order(5, 1)));
        for (int place = 1; place <= 8; place++) {
            answers.add(show.placed(1, place));
        }
        answers.add(show.swaps(1));
    }

    private static void tapeAsCard(CattleShow show, List<Integer> answers) {
        answers.add(show.card(1));
    }

    private static void feeds(CattleShow show, List<Integer> answers) {
        for (int i = 0; i < 5; i++) {
            answers.add(show.feed(0, 0, 0, 0, 0));
        }
    }

    private static void beasts(CattleShow show, List<Integer> answers) {
        for (int i = 0; i < 21; i++) {
            answers.add(show.beast(0, 0, 0, 0));
        }
    }

    private static void enters(CattleShow show, List<Integer> answers) {
        for (int c = 0; c < 6; c++) {
            for (int b = 0; b < 20; b++) {
                answers.add(number(show.enter(c, b)));
            }
            answers.add(show.count(20 + c));
        }
    }

    private static void bars(CattleShow show, List<Integer> answers) {
        for (int j = 0; j < 6; j++) {
            for (int b = 0; b < 20; b++) {
                answers.add(number(show.bar(j, b)));
            }
        }
    }

    /** What the ORDERS say of those behind the first comes out as the first ones go. */
    private static void protests(CattleShow show, List<Integer> answers) {
        for (int c = 0; c < 6; c++) {
            for (int left = show.count(10 + c); left > 0; left--) {
                int first = show.placed(c, 1);
                answers.add(first);
                answers.add(show.swaps(c));
                answers.add(number(show.protest(c, first)));
                answers.add(show.count(20 + c));
            }
        }
    }

    private static void cards(CattleShow show, List<Integer> answers) {
        show.reasons(0, 0);
        for (int c = 0; c < 6; c++) {
            for (int i = 1; i <= 3 && i < show.count(10 + c); i++) {
                int[] card = new int[4];
                for (int place = 1; place <= 4; place++) {
                    card[place - 1] = show.placed(c, place == i ? i + 1 : place == i + 1 ? i : place);
                }
                answers.add(Tapes.card(show, c, card));
            }
        }
    }

    private static void texts(CattleShow show, List<Integer> answers) {
        for (int m = 0; m < 3; m++) {
            for (int n : new int[] {0, 4, 5, 89, 90, 99}) {
                show.measure(1, m, n);
                for (int c = 0; c < 6; c++) {
                    answers.add(show.lets(c, 1));
                }
            }
        }
    }
}
