import java.util.StringJoiner;
import java.util.concurrent.Callable;
import java.util.function.Consumer;

/**
 * "A call that throws changes nothing": two objects are made alike, one of them is also asked for what
 * it must refuse, and whatever is asked of both afterwards must be answered alike.
 */
final class Twins {
    /** Later calls, which may change the object, and all that they answered. */
    private interface Look {
        String at(NormalForms forms);
    }

    /** Characters whose rows are looked at: those of the tests' tables, and those of refused calls. */
    private static final int[] CHARACTERS = {0, 1, 7, 8, 100, 101, 102, 200, 1114111};
    /** Neighbours whose order, composite and rule are looked at. */
    private static final int[][] NEIGHBOURS = {
        {1, 10}, {5, 10}, {100, 20}, {7, 8}, {8, 7}, {20, 7}, {20, 10}, {7, 10}, {4352, 4449}, {44032, 4520},
        {0, 1114111}, {20, 1114111},
    };
    private static final int[] PLACES = {-1, 0, 1, 2, 3, 4, 5, 6, 7, 8, 999, 1000, 1001};
    private static final int[] INDEXES = {
        -1, 0, 1, 2, 3, 4, 5, 6, 7, 8, 9, 10, 11, 12, 999, 1000, 1001, 1998, 1999, 2000,
    };
    /** Each begins with objects of its own, as one changes what the next would see, and 512 calls are all. */
    private static final Look[] LOOKS = {
        Twins::text, Twins::form, Twins::rows, Twins::neighbours,
        forms -> room(61, i -> forms.mark(600000 + i, 600000 + i, 1)),
        forms -> room(61, i -> forms.property(600000 + i, 600000 + i, 1)),
        forms -> room(121, i -> forms.part(600000 + i, 700000, 700001 + i)),
        forms -> room(121, i -> forms.loose(600000 + i, 700000, -1, -1)),
        forms -> room(61, i -> forms.exclude(600000 + i, true)),
    };

    private final Expect expect;
    private final String state;
    private final Consumer<NormalForms> making;

    Twins(Expect expect, String state, Consumer<NormalForms> making) {
        this.expect = expect;
        this.state = state;
        this.making = making;
    }

    private NormalForms made() {
        NormalForms forms = new NormalForms();
        making.accept(forms);
        return forms;
    }

    /** The call throws what is due, and nothing that is asked later tells that it was tried. */
    void refuse(String due, String what, Consumer<NormalForms> call) {
        for (int i = 0; i < LOOKS.length; i++) {
            NormalForms asked = made();
            expect.refuses(due, state + ": " + what, () -> call.accept(asked));
            expect.same(LOOKS[i].at(made()), state + ": behind " + what + ", look " + i, LOOKS[i].at(asked));
        }
    }

    /** The other way round, so that the looks are known to see something: they must not be all alike. */
    void change(String what, Consumer<NormalForms> call) {
        boolean isSeen = false;
        for (Look look : LOOKS) {
            NormalForms changed = made();
            expect.does(state + ": " + what, () -> call.accept(changed));
            isSeen |= !look.at(made()).equals(look.at(changed));
        }
        expect.same("true", state + ": " + what + " is seen by later calls", "" + isSeen);
    }

    private static void note(StringJoiner seen, Callable<?> call) {
        seen.add(Expect.answerOf(call));
    }

    private static String text(NormalForms forms) {
        StringJoiner seen = new StringJoiner(" ");
        note(seen, () -> forms.add(-1, -1, -1, -1, -1));
        note(seen, forms::readers);
        for (int place : PLACES) {
            note(seen, () -> forms.rule(place));
            note(seen, () -> forms.ends(place));
        }
        for (int form = 0; form <= 3; form++) {
            int asked = form;
            note(seen, () -> forms.isIn(asked));
        }
        note(seen, forms::clear);
        return seen.toString();
    }

    private static String form(NormalForms forms) {
        StringJoiner seen = new StringJoiner(" ");
        indexes(seen, forms);
        note(seen, forms::keep);
        note(seen, () -> forms.add(-1, -1, -1, -1, -1));
        note(seen, () -> forms.form(1));
        indexes(seen, forms);
        note(seen, () -> forms.form(2));
        indexes(seen, forms);
        return seen.toString();
    }

    private static void indexes(StringJoiner seen, NormalForms forms) {
        for (int i : INDEXES) {
            note(seen, () -> forms.at(i));
        }
    }

    private static String rows(NormalForms forms) {
        StringJoiner seen = new StringJoiner(" ");
        for (int character : CHARACTERS) {
            forms.clear();
            forms.add(character, -1, -1, -1, -1);
            for (int form = 0; form <= 2; form += 2) {
                int asked = form;
                note(seen, () -> forms.form(asked));
                for (int i = 0; i < 3; i++) {
                    int at = i;
                    note(seen, () -> forms.at(at));
                }
            }
        }
        return seen.toString();
    }

    private static String neighbours(NormalForms forms) {
        StringJoiner seen = new StringJoiner(" ");
        for (int[] two : NEIGHBOURS) {
            forms.clear();
            forms.add(two[0], two[1], -1, -1, -1);
            note(seen, () -> forms.rule(1));
            note(seen, () -> forms.form(3));
            note(seen, () -> forms.at(0));
            note(seen, () -> forms.at(1));
        }
        return seen.toString();
    }

    /** How often something more can be told, until it is refused. */
    private static String room(int most, java.util.function.IntConsumer tell) {
        int told = 0;
        for (int i = 0; i < most; i++) {
            int at = i;
            if (!Expect.outcomeOf(() -> tell.accept(at)).equals(Expect.FINE)) {
                break;
            }
            told++;
        }
        return "" + told;
    }
}
