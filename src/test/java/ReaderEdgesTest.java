/** Promises 13 to 15 and the rules of 'Terms': the edges of places, and each rule against its neighbours. */
public final class ReaderEdgesTest {
    private static final int OTHER = 0, CR = 1, LF = 2, CONTROL = 3, EXTENDING = 4, JOINER = 5, FLAG = 6, LEADING = 7,
        SPACING = 8, L = 9, V = 10, T = 11, LV = 12, LVT = 13, PICTURE = 14;

    private final Expect expect = new Expect();

    public static void main(String[] args) {
        ReaderEdgesTest test = new ReaderEdgesTest();
        test.placesOfNoText();
        test.placesOfAText();
        test.placesOfAFullText();
        test.firstRuleThatTells();
        test.rule1And2();
        test.rule3();
        test.rule4And5();
        test.rule6To8();
        test.rule9To92();
        test.rule11();
        test.rule11FarOff();
        test.rule12();
        test.rule12FarOff();
        test.rule999();
        test.readersAtTheirEdges();
        test.expect.end();
    }

    /** Each character 0 .. 14 is of the kind of its number. */
    private static NormalForms of(int... kinds) {
        NormalForms forms = new NormalForms();
        for (int kind = 0; kind <= 14; kind++) {
            forms.property(kind, kind, kind);
        }
        Expect.addAll(forms, kinds);
        return forms;
    }

    /** The rules of all places, with what ends and readers say of them. */
    private void rules(String due, int... kinds) {
        NormalForms forms = of(kinds);
        String[] rules = due.split(" ");
        String what = java.util.Arrays.toString(kinds);
        int count = 0;
        for (int place = 0; place < rules.length; place++) {
            int asked = place;
            boolean isEnd = java.util.Set.of("1", "2", "4", "5", "999").contains(rules[place]);
            expect.answers(rules[place], what + " rule " + place, () -> forms.rule(asked));
            expect.answers(isEnd, what + " ends " + place, () -> forms.ends(asked));
            count += isEnd ? 1 : 0;
        }
        expect.answers(count - 1, what + " readers", forms::readers);
        // Once more from the end, as no answer may hang on what was asked before.
        for (int place = rules.length - 1; place >= 0; place--) {
            int asked = place;
            expect.answers(rules[place], what + " rule " + place + " again", () -> forms.rule(asked));
        }
        expect.answers(count - 1, what + " readers again", forms::readers);
    }

    private void places(NormalForms forms, int last, String what) {
        for (int place : new int[] {Integer.MIN_VALUE, -2, -1, last + 1, last + 2, Integer.MAX_VALUE}) {
            expect.answers(Expect.PLACE, what + " ends " + place, () -> forms.ends(place));
            expect.answers(Expect.PLACE, what + " rule " + place, () -> forms.rule(place));
        }
        expect.answers(1, what + " rule 0", () -> forms.rule(0));
        expect.answers(last > 0, what + " ends 0", () -> forms.ends(0));
        expect.answers(last == 0 ? 1 : 2, what + " rule " + last, () -> forms.rule(last));
        expect.answers(last > 0, what + " ends " + last, () -> forms.ends(last));
    }

    /** "1: yes at place 0, 2: yes at n (with no character: no, by 1)": no text, new and cleared. */
    private void placesOfNoText() {
        NormalForms forms = new NormalForms();
        places(forms, 0, "no text");
        forms.add(5, 6, -1, -1, -1);
        forms.clear();
        places(forms, 0, "a cleared text");
        forms.form(0);
        forms.add(5, -1, -1, -1, -1);
        forms.keep();
        places(forms, 0, "a kept form without characters");
    }

    /** "PLACES are 0 .. n, place p before character p"; "there is no such place". */
    private void placesOfAText() {
        NormalForms forms = new NormalForms();
        for (int n = 1; n <= 5; n++) {
            forms.add(7, -1, -1, -1, -1);
            places(forms, n, n + " characters");
        }
        forms.part(7, 1, 2);
        forms.form(0);
        places(forms, 5, "the form is longer, but not the text");
        forms.keep();
        places(forms, 10, "the text is the form");
        NormalForms before = of(OTHER, EXTENDING, OTHER, SPACING);
        expect.answers(9, "before character 1", () -> before.rule(1));
        expect.answers(999, "before character 2", () -> before.rule(2));
        expect.answers(91, "before character 3", () -> before.rule(3));
    }

    private void placesOfAFullText() {
        NormalForms forms = of();
        for (int i = 0; i < 200; i++) {
            forms.add(OTHER, OTHER, OTHER, OTHER, EXTENDING);
        }
        places(forms, 1000, "a full text");
        expect.answers(9, "rule 999", () -> forms.rule(999));
        expect.answers(999, "rule 998", () -> forms.rule(998));
        expect.answers(false, "ends 999", () -> forms.ends(999));
        expect.answers(true, "ends 998", () -> forms.ends(998));
        expect.answers(800, "readers", forms::readers);
    }

    /** "Is told by the first of these rules": two that would tell, the first one wins. */
    private void firstRuleThatTells() {
        rules("1 2", EXTENDING);
        rules("1 2", LEADING);
        rules("1 3 2", CR, LF);
        rules("1 4 2", CR, CR);
        rules("1 4 2", CONTROL, EXTENDING);
        rules("1 4 2", LF, SPACING);
        rules("1 5 2", LEADING, CONTROL);
        rules("1 9 2", LEADING, EXTENDING);
        rules("1 9 2", LEADING, JOINER);
        rules("1 91 2", LEADING, SPACING);
        rules("1 9 9 2", PICTURE, JOINER, JOINER);
        rules("1 92 12 2", LEADING, FLAG, FLAG);
    }

    /** Rules 1 and 2, whatever stands at the ends. */
    private void rule1And2() {
        for (int kind = 0; kind <= 14; kind++) {
            rules("1 2", kind);
        }
    }

    /** "3: no between CR and LF": and only so. */
    private void rule3() {
        rules("1 3 4 2", CR, LF, OTHER);
        rules("1 4 2", LF, CR);
        rules("1 4 3 4 4 2", CR, CR, LF, LF, CR);
        rules("1 4 2", CR, CONTROL);
        rules("1 4 2", CONTROL, LF);
        rules("1 5 4 2", OTHER, LF, OTHER);
    }

    /** "4: yes behind CR, LF, control. 5: yes before these." */
    private void rule4And5() {
        for (int line : new int[] {CR, LF, CONTROL}) {
            for (int kind : new int[] {OTHER, EXTENDING, JOINER, FLAG, LEADING, SPACING, L, V, T, LV, LVT, PICTURE}) {
                rules("1 4 2", line, kind);
                rules("1 5 2", kind, line);
            }
        }
        rules("1 9 5 4 2", PICTURE, JOINER, CONTROL, PICTURE);
        rules("1 5 4 999 2", FLAG, CONTROL, OTHER, FLAG);
    }

    /** "6: no between L and L, V, LV, LVT. 7: no between LV or V, and V or T. 8: no between LVT or T, and T." */
    private void rule6To8() {
        int[] kinds = {L, V, T, LV, LVT};
        String[] due = {"6 6 999 6 6", "999 7 7 999 999", "999 999 8 999 999", "999 7 7 999 999", "999 999 8 999 999"};
        for (int i = 0; i < kinds.length; i++) {
            String[] row = due[i].split(" ");
            for (int k = 0; k < kinds.length; k++) {
                rules("1 " + row[k] + " 2", kinds[i], kinds[k]);
            }
            rules("1 999 2", OTHER, kinds[i]);
            rules("1 999 2", kinds[i], OTHER);
            rules("1 9 999 2", L, EXTENDING, kinds[i]);
        }
        rules("1 6 6 7 7 8 8 999 2", L, L, LV, V, T, T, T, L);
        rules("1 6 8 8 999 7 7 2", L, LVT, T, T, V, V, T);
    }

    /** "9: no before extending, joiner; 91: nor before a spacing mark; 92: nor behind a leading mark." */
    private void rule9To92() {
        for (int kind : new int[] {OTHER, EXTENDING, JOINER, FLAG, LEADING, SPACING, L, V, T, LV, LVT, PICTURE}) {
            rules("1 9 2", kind, EXTENDING);
            rules("1 9 2", kind, JOINER);
            rules("1 91 2", kind, SPACING);
        }
        for (int kind : new int[] {OTHER, FLAG, LEADING, L, V, T, LV, LVT, PICTURE}) {
            rules("1 92 2", LEADING, kind);
        }
        rules("1 92 999 2", LEADING, OTHER, OTHER);
        rules("1 9 999 2", LEADING, EXTENDING, OTHER);
    }

    /** "11: no between a joiner and a picture, if before the joiner there is a picture, with any number of
     * extending ones (or none) between." */
    private void rule11() {
        rules("1 9 11 2", PICTURE, JOINER, PICTURE);
        rules("1 9 9 11 2", PICTURE, EXTENDING, JOINER, PICTURE);
        rules("1 9 9 9 11 2", PICTURE, EXTENDING, EXTENDING, JOINER, PICTURE);
        rules("1 999 2", JOINER, PICTURE);
        rules("1 9 999 2", EXTENDING, JOINER, PICTURE);
        rules("1 9 999 2", OTHER, JOINER, PICTURE);
        rules("1 9 9 999 2", PICTURE, JOINER, JOINER, PICTURE);
        rules("1 9 9 999 2", PICTURE, JOINER, EXTENDING, PICTURE);
        rules("1 9 9 9 999 2", PICTURE, EXTENDING, JOINER, JOINER, PICTURE);
        rules("1 91 9 999 2", PICTURE, SPACING, JOINER, PICTURE);
        rules("1 9 91 9 999 2", PICTURE, EXTENDING, SPACING, JOINER, PICTURE);
        rules("1 9 999 2", PICTURE, JOINER, OTHER);
        rules("1 9 999 2", PICTURE, EXTENDING, PICTURE);
        rules("1 999 2", PICTURE, PICTURE);
        rules("1 9 11 999 9 11 2", PICTURE, JOINER, PICTURE, PICTURE, JOINER, PICTURE);
        rules("1 9 11 9 9 11 2", PICTURE, JOINER, PICTURE, EXTENDING, JOINER, PICTURE);
    }

    /** "Any number": as many as a text has room for. */
    private void rule11FarOff() {
        for (int first : new int[] {PICTURE, OTHER}) {
            NormalForms forms = of(first, EXTENDING);
            for (int i = 0; i < 199; i++) {
                forms.add(EXTENDING, EXTENDING, EXTENDING, EXTENDING, EXTENDING);
            }
            forms.add(EXTENDING, JOINER, PICTURE, -1, -1);
            expect.answers(first == PICTURE ? 11 : 999, "997 extending ones between", () -> forms.rule(999));
            expect.answers(first != PICTURE, "997 extending ones between", () -> forms.ends(999));
            expect.answers(first == PICTURE ? 1 : 2, "997 extending ones between", forms::readers);
        }
    }

    /** "12: no between two flags, if as many flags as are in a row before the place are odd." */
    private void rule12() {
        rules("1 12 2", FLAG, FLAG);
        rules("1 12 999 2", FLAG, FLAG, FLAG);
        rules("1 12 999 12 2", FLAG, FLAG, FLAG, FLAG);
        rules("1 999 12 999 2", OTHER, FLAG, FLAG, FLAG);
        rules("1 12 999 999 12 2", FLAG, FLAG, OTHER, FLAG, FLAG);
        rules("1 999 999 12 2", FLAG, OTHER, FLAG, FLAG);
        rules("1 9 999 12 999 2", FLAG, EXTENDING, FLAG, FLAG, FLAG);
        rules("1 12 9 999 12 2", FLAG, FLAG, JOINER, FLAG, FLAG);
        rules("1 5 4 12 2", FLAG, CONTROL, FLAG, FLAG);
        rules("1 999 2", FLAG, PICTURE);
        rules("1 999 2", PICTURE, FLAG);
    }

    private void rule12FarOff() {
        NormalForms forms = of();
        for (int i = 0; i < 200; i++) {
            forms.add(FLAG, FLAG, FLAG, FLAG, FLAG);
        }
        expect.answers(12, "999 flags before", () -> forms.rule(999));
        expect.answers(false, "999 flags before", () -> forms.ends(999));
        expect.answers(999, "998 flags before", () -> forms.rule(998));
        expect.answers(true, "998 flags before", () -> forms.ends(998));
        expect.answers(500, "pairs of flags", forms::readers);
    }

    /** "999: yes." */
    private void rule999() {
        int[] kinds = {OTHER, FLAG, L, PICTURE};
        for (int first : new int[] {OTHER, EXTENDING, JOINER, SPACING, T, LVT, PICTURE}) {
            for (int second : kinds) {
                rules("1 999 2", first, second);
            }
        }
    }

    /** Promise 15: "How many READER'S CHARACTERS the text has": none, one, all, and those of a full text. */
    private void readersAtTheirEdges() {
        NormalForms forms = of();
        expect.answers(0, "no text", forms::readers);
        forms.add(EXTENDING, -1, -1, -1, -1);
        expect.answers(1, "one character", forms::readers);
        forms.add(EXTENDING, JOINER, SPACING, EXTENDING, -1);
        expect.answers(1, "one reader's character", forms::readers);
        forms.add(OTHER, -1, -1, -1, -1);
        expect.answers(2, "one more", forms::readers);
        expect.answers(6, "clear", forms::clear);
        expect.answers(0, "a cleared text", forms::readers);
        for (int i = 0; i < 200; i++) {
            forms.add(OTHER, OTHER, OTHER, OTHER, OTHER);
        }
        expect.answers(1000, "a full text", forms::readers);
        forms.property(OTHER, OTHER, EXTENDING);
        expect.answers(1, "a full text of one reader's character", forms::readers);
        forms.property(OTHER, OTHER, CONTROL);
        expect.answers(1000, "a full text of controls", forms::readers);
    }
}
