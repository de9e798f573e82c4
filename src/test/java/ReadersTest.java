/** Promises 13, 14 and 15: ends, rule and readers. */
public final class ReadersTest {
    private static final int OTHER = 0, CR = 1, LF = 2, CONTROL = 3, EXTENDING = 4, JOINER = 5, FLAG = 6, LEADING = 7,
        SPACING = 8, L = 9, V = 10, T = 11, LV = 12, LVT = 13, PICTURE = 14;

    public static void main(String[] args) {
        Expect expect = new Expect();
        noText(expect);
        wrongPlaces(expect);
        everyPair(expect);
        pictures(expect);
        flags(expect);
        longTexts(expect);
        keptText(expect);
        expect.end();
    }

    /** Each character is its own kind. */
    private static NormalForms withKinds(int... kinds) {
        NormalForms forms = new NormalForms();
        for (int kind = 0; kind <= 14; kind++) {
            forms.property(kind, kind, kind);
        }
        Expect.addAll(forms, kinds);
        return forms;
    }

    private static void noText(Expect expect) {
        NormalForms forms = new NormalForms();
        expect.answers(false, "ends(0) of no text", () -> forms.ends(0));
        expect.answers(1, "rule(0) of no text", () -> forms.rule(0));
        expect.answers(0, "readers of no text", forms::readers);
        expect.answers(Expect.PLACE, "ends(1) of no text", () -> forms.ends(1));
        expect.answers(Expect.PLACE, "rule(1) of no text", () -> forms.rule(1));
    }

    private static void wrongPlaces(Expect expect) {
        NormalForms forms = withKinds(OTHER, OTHER);
        int[] wrong = {-1, 3, Integer.MIN_VALUE, Integer.MAX_VALUE};
        for (int place : wrong) {
            expect.answers(Expect.PLACE, "ends " + place, () -> forms.ends(place));
            expect.answers(Expect.PLACE, "rule " + place, () -> forms.rule(place));
        }
        rules(expect, "1 999 2", OTHER, OTHER);
        rules(expect, "1 2", CR);
    }

    /** The rule between two kinds, by a table of its own: a row for the first, a place in it for the second. */
    private static void everyPair(Expect expect) {
        String[] due = {
            "999 5 5 5 9 9 999 999 91 999 999 999 999 999 999",
            "4 4 3 4 4 4 4 4 4 4 4 4 4 4 4",
            "4 4 4 4 4 4 4 4 4 4 4 4 4 4 4",
            "4 4 4 4 4 4 4 4 4 4 4 4 4 4 4",
            "999 5 5 5 9 9 999 999 91 999 999 999 999 999 999",
            "999 5 5 5 9 9 999 999 91 999 999 999 999 999 999",
            "999 5 5 5 9 9 12 999 91 999 999 999 999 999 999",
            "92 5 5 5 9 9 92 92 91 92 92 92 92 92 92",
            "999 5 5 5 9 9 999 999 91 999 999 999 999 999 999",
            "999 5 5 5 9 9 999 999 91 6 6 999 6 6 999",
            "999 5 5 5 9 9 999 999 91 999 7 7 999 999 999",
            "999 5 5 5 9 9 999 999 91 999 999 8 999 999 999",
            "999 5 5 5 9 9 999 999 91 999 7 7 999 999 999",
            "999 5 5 5 9 9 999 999 91 999 999 8 999 999 999",
            "999 5 5 5 9 9 999 999 91 999 999 999 999 999 999",
        };
        for (int first = 0; first <= 14; first++) {
            String[] row = due[first].split(" ");
            for (int second = 0; second <= 14; second++) {
                rules(expect, "1 " + row[second] + " 2", first, second);
            }
        }
    }

    private static void pictures(Expect expect) {
        rules(expect, "1 9 11 2", PICTURE, JOINER, PICTURE);
        rules(expect, "1 9 9 9 11 2", PICTURE, EXTENDING, EXTENDING, JOINER, PICTURE);
        rules(expect, "1 9 11 9 11 2", PICTURE, JOINER, PICTURE, JOINER, PICTURE);
        rules(expect, "1 9 9 999 2", PICTURE, JOINER, JOINER, PICTURE);
        rules(expect, "1 9 9 999 2", PICTURE, JOINER, EXTENDING, PICTURE);
        rules(expect, "1 9 999 2", PICTURE, EXTENDING, PICTURE);
        rules(expect, "1 91 9 999 2", PICTURE, SPACING, JOINER, PICTURE);
        rules(expect, "1 999 9 999 2", PICTURE, OTHER, JOINER, PICTURE);
        rules(expect, "1 9 999 2", OTHER, JOINER, PICTURE);
        rules(expect, "1 9 9 999 2", OTHER, EXTENDING, JOINER, PICTURE);
        rules(expect, "1 9 999 2", EXTENDING, JOINER, PICTURE);
        rules(expect, "1 999 2", JOINER, PICTURE);
        rules(expect, "1 9 999 2", PICTURE, JOINER, OTHER);
        rules(expect, "1 9 5 4 2", PICTURE, JOINER, CONTROL, PICTURE);
        rules(expect, "1 9 9 9 999 2", PICTURE, JOINER, EXTENDING, JOINER, PICTURE);
    }

    private static void flags(Expect expect) {
        rules(expect, "1 12 999 12 999 2", FLAG, FLAG, FLAG, FLAG, FLAG);
        rules(expect, "1 999 12 999 2", OTHER, FLAG, FLAG, FLAG);
        rules(expect, "1 9 999 12 2", FLAG, EXTENDING, FLAG, FLAG);
        rules(expect, "1 12 999 999 12 999 2", FLAG, FLAG, OTHER, FLAG, FLAG, FLAG);
        rules(expect, "1 92 12 999 2", LEADING, FLAG, FLAG, FLAG);
    }

    private static void longTexts(Expect expect) {
        rules(expect, "1 3 4 9 9 999 91 999 12 999 999 6 7 2",
            CR, LF, OTHER, EXTENDING, JOINER, OTHER, SPACING, FLAG, FLAG, FLAG, L, V, T);
        NormalForms forms = new NormalForms();
        forms.property(0, 0, FLAG);
        for (int i = 0; i < 199; i++) {
            forms.add(0, 0, 0, 0, 0);
        }
        expect.answers(498, "readers of 995 flags", forms::readers);
        expect.answers(999, "between pairs of flags", () -> forms.rule(994));
        expect.answers(12, "in a pair of flags", () -> forms.rule(993));
    }

    /** The text, and not its form, is what is parted. */
    private static void keptText(Expect expect) {
        NormalForms forms = new NormalForms();
        forms.part(100, 1, 2);
        forms.property(2, 2, LEADING);
        forms.add(100, 7, -1, -1, -1);
        forms.form(0);
        expect.answers(999, "rule(1) before keep", () -> forms.rule(1));
        expect.answers(Expect.PLACE, "no place 3", () -> forms.ends(3));
        forms.keep();
        expect.answers(92, "rule(2) after keep", () -> forms.rule(2));
        expect.answers(false, "ends(2) after keep", () -> forms.ends(2));
        expect.answers(2, "readers after keep", forms::readers);
        expect.answers(true, "ends(3) after keep", () -> forms.ends(3));
    }

    /** Compares the rule of each place, whether one ends there, and how many there are. */
    private static void rules(Expect expect, String due, int... kinds) {
        NormalForms forms = withKinds(kinds);
        String[] rules = due.split(" ");
        String what = java.util.Arrays.toString(kinds);
        int count = 0;
        for (int place = 0; place < rules.length; place++) {
            int asked = place;
            boolean isEnd = java.util.List.of("1", "2", "4", "5", "999").contains(rules[place]);
            count += isEnd && place > 0 ? 1 : 0;
            expect.answers(rules[place], what + " rule " + place, () -> forms.rule(asked));
            expect.answers(isEnd, what + " ends " + place, () -> forms.ends(asked));
        }
        expect.answers(Expect.PLACE, what + " behind the end", () -> forms.rule(rules.length));
        expect.answers(count, what + " readers", forms::readers);
    }
}
