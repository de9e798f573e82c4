/** Promises 9 and 12: the forms of a text, and whether it is in one. */
public final class FormsTest {
    public static void main(String[] args) {
        Expect expect = new Expect();
        ordering(expect);
        puttingTogether(expect);
        compositesOfAClass(expect);
        withoutAStarter(expect);
        syllables(expect);
        allSyllables(expect);
        wrongForms(expect);
        longForms(expect);
        tooLongThoughShortTogether(expect);
        beingIn(expect);
        expect.end();
    }

    private static void ordering(Expect expect) {
        NormalForms forms = new NormalForms();
        forms.mark(10, 19, 1);
        forms.mark(20, 29, 2);
        forms.mark(30, 39, 254);
        Expect.addAll(forms, 30, 20, 10, 1, 31, 21, 30, 20, 12, 11, 2, 3, 20, 20, 10);
        expect.same("10 20 30 1 12 11 21 20 31 30 2 3 10 20 20", "marks in order", Expect.formOf(forms, 0));
        expect.same("10 20 30 1 12 11 21 20 31 30 2 3 10 20 20", "marks in order", Expect.formOf(forms, 3));
        forms.part(100, 30, 10);
        forms.clear();
        Expect.addAll(forms, 1, 20, 100);
        expect.same("1 10 20 30", "order comes after taking apart", Expect.formOf(forms, 0));
    }

    private static void puttingTogether(Expect expect) {
        NormalForms forms = new NormalForms();
        forms.mark(10, 19, 1);
        forms.mark(20, 29, 2);
        forms.part(100, 1, 10);
        forms.part(101, 1, 20);
        forms.part(102, 100, 20);
        forms.part(103, 1, 2);
        forms.part(104, 103, 3);
        Expect.addAll(forms, 1, 20, 10);
        expect.same("102", "twice, in order", Expect.formOf(forms, 1));
        forms.clear();
        Expect.addAll(forms, 1, 11, 20);
        expect.same("101 11", "past a lower class", Expect.formOf(forms, 1));
        forms.clear();
        Expect.addAll(forms, 1, 11, 10);
        expect.same("1 11 10", "not past the same class", Expect.formOf(forms, 1));
        forms.clear();
        Expect.addAll(forms, 1, 10, 10);
        expect.same("100 10", "the first of two", Expect.formOf(forms, 1));
        forms.clear();
        Expect.addAll(forms, 1, 11, 2);
        expect.same("1 11 2", "no class 0 past a mark", Expect.formOf(forms, 1));
        forms.clear();
        Expect.addAll(forms, 1, 2, 3, 1, 2, 2, 3);
        expect.same("104 103 2 3", "neighbours of class 0", Expect.formOf(forms, 1));
        forms.clear();
        Expect.addAll(forms, 1, 9, 10);
        expect.same("1 9 10", "only the latest of class 0", Expect.formOf(forms, 1));
        forms.clear();
        Expect.addAll(forms, 1, 10, 11, 20);
        expect.same("102 11", "what is gone is not between", Expect.formOf(forms, 1));
    }

    private static void compositesOfAClass(Expect expect) {
        NormalForms forms = new NormalForms();
        forms.mark(10, 10, 1);
        forms.part(100, 1, 10);
        forms.part(101, 10, 1);
        forms.mark(100, 100, 5);
        Expect.addAll(forms, 1, 10);
        expect.same("1 10", "a composite has class 0", Expect.formOf(forms, 1));
        forms.mark(100, 100, 0);
        expect.same("100", "the class told last counts", Expect.formOf(forms, 1));
        forms.mark(1, 1, 4);
        expect.same("10 1", "what is put together begins with class 0", Expect.formOf(forms, 1));
        forms.clear();
        Expect.addAll(forms, 4352, 4449, 4520);
        forms.mark(44032, 44032, 5);
        expect.same("4352 4449 4520", "a syllable of a class", Expect.formOf(forms, 1));
        forms.mark(44032, 44032, 0);
        forms.mark(44033, 44033, 5);
        expect.same("44032 4520", "a syllable with t of a class", Expect.formOf(forms, 1));
    }

    private static void withoutAStarter(Expect expect) {
        NormalForms forms = new NormalForms();
        forms.mark(10, 19, 1);
        forms.part(100, 10, 11);
        forms.part(101, 10, 1);
        Expect.addAll(forms, 10, 11, 1);
        expect.same("10 11 1", "no first of class 0", Expect.formOf(forms, 1));
        forms.clear();
        Expect.addAll(forms, 100, 101);
        expect.same("10 11 10 1", "they stay apart", Expect.formOf(forms, 1));
    }

    private static void syllables(Expect expect) {
        NormalForms forms = new NormalForms();
        Expect.addAll(forms, 44031, 44032, 44033, 55203, 55204);
        expect.same("44031 4352 4449 4352 4449 4520 4370 4469 4546 55204", "apart", Expect.formOf(forms, 0));
        expect.same("44031 44032 44033 55203 55204", "together", Expect.formOf(forms, 1));
        forms.clear();
        Expect.addAll(forms, 4352, 4449, 4519, 4352, 4449, 4547, 4371, 4449, 4352, 4470, 44033, 4520);
        expect.same("44032 4519 44032 4547 4371 4449 4352 4470 44033 4520", "edges", Expect.formOf(forms, 1));
        forms.mark(4449, 4449, 7);
        forms.mark(1, 1, 3);
        forms.clear();
        Expect.addAll(forms, 4352, 4449, 1, 4520, 44033);
        expect.same("44032 1 4520 44033", "a vowel with a class", Expect.formOf(forms, 1));
        forms.loose(4520, 8, 9, -1);
        expect.same("4352 1 4449 8 9 4352 4449 8 9", "a tail with a loose row", Expect.formOf(forms, 2));
        expect.same("44032 1 8 9 44032 8 9", "a tail with a loose row", Expect.formOf(forms, 3));
        expect.same("44032 1 4520 44033", "a tail with a loose row", Expect.formOf(forms, 1));
    }

    private static void allSyllables(Expect expect) {
        for (int l = 0; l < 19; l++) {
            for (int v = 0; v < 21; v++) {
                for (int t = 0; t < 28; t++) {
                    int s = 44032 + (l * 21 + v) * 28 + t;
                    // One object for each, as an object is good for 512 calls.
                    NormalForms forms = new NormalForms();
                    forms.add(s, -1, -1, -1, -1);
                    String parts = (4352 + l) + " " + (4449 + v) + (t == 0 ? "" : " " + (4519 + t));
                    expect.same(parts, "apart " + s, Expect.formOf(forms, 2));
                    forms.keep();
                    expect.same("" + s, "together " + s, Expect.formOf(forms, 3));
                }
            }
        }
    }

    private static void wrongForms(Expect expect) {
        NormalForms forms = new NormalForms();
        int[] wrong = {-1, 4, Integer.MIN_VALUE, Integer.MAX_VALUE};
        forms.part(100, 1, 1);
        for (int form : wrong) {
            expect.answers(Expect.ARGUMENT, "form " + form, () -> forms.form(form));
            expect.answers(Expect.ARGUMENT, "isIn " + form, () -> forms.isIn(form));
        }
        expect.answers(0, "no form was asked for", forms::keep);
    }

    private static void longForms(Expect expect) {
        NormalForms forms = new NormalForms();
        forms.part(100, 1, 2);
        forms.loose(101, 100, 3, 4);
        for (int i = 0; i < 199; i++) {
            forms.add(100, 100, 100, 100, 100);
        }
        forms.add(100, 100, 100, 100, 101);
        expect.answers(1999, "one alone in form 0", () -> forms.form(0));
        expect.answers(101, "its last", () -> forms.at(1998));
        expect.answers(1000, "in form 1", () -> forms.form(1));
        expect.answers(Expect.STATE, "2002 in form 2", () -> forms.form(2));
        expect.answers(Expect.STATE, "2002 in form 3", () -> forms.form(3));
        expect.answers(Expect.STATE, "2002 with isIn", () -> forms.isIn(3));
        expect.answers(101, "the form of before stays", () -> forms.at(999));
        expect.answers(1000, "keep() of the form of before", forms::keep);
        expect.answers(true, "isIn(1)", () -> forms.isIn(1));
        NormalForms full = new NormalForms();
        full.part(100, 1, 2);
        for (int i = 0; i < 200; i++) {
            full.add(100, 100, 100, 100, 100);
        }
        expect.answers(2000, "2000 apart", () -> full.form(0));
        expect.answers(2, "the last of 2000", () -> full.at(1999));
        expect.answers(-1, "behind 2000", () -> full.at(2000));
        expect.answers(Expect.STATE, "keep of 2000", full::keep);
        expect.answers(1000, "2000 together", () -> full.form(3));
    }

    private static void tooLongThoughShortTogether(Expect expect) {
        NormalForms forms = new NormalForms();
        forms.part(100, 1, 1);
        forms.part(101, 100, 1);
        forms.part(102, 101, 101);
        for (int i = 0; i < 333; i++) {
            forms.add(102, -1, -1, -1, -1);
        }
        expect.answers(1998, "333 times 6", () -> forms.form(2));
        expect.answers(false, "isIn(2)", () -> forms.isIn(2));
        forms.add(1, 1, -1, -1, -1);
        expect.answers(2000, "two more", () -> forms.form(0));
        forms.add(1, -1, -1, -1, -1);
        expect.answers(Expect.STATE, "three more", () -> forms.form(0));
        expect.answers(Expect.STATE, "three more, together", () -> forms.form(1));
        expect.answers(-1, "the form of before", () -> forms.at(2000));
        expect.answers(1, "the form of before", () -> forms.at(1999));
    }

    private static void beingIn(Expect expect) {
        NormalForms forms = new NormalForms();
        forms.mark(10, 19, 1);
        forms.mark(20, 29, 2);
        forms.part(100, 1, 10);
        forms.loose(200, 1, -1, -1);
        inForms(expect, forms, "1111", 1, 2, 3);
        inForms(expect, forms, "0101", 100, 20);
        inForms(expect, forms, "1010", 1, 10);
        inForms(expect, forms, "0000", 1, 20, 10);
        inForms(expect, forms, "1100", 200);
        inForms(expect, forms, "1100", 200, 10);
        inForms(expect, forms, "0000", 20, 10);
        inForms(expect, forms, "1111", 10, 20);
        inForms(expect, forms, "0101", 44033);
        expect.answers(-1, "no form was asked for", () -> forms.at(0));
        expect.answers(1, "no form was asked for", forms::keep);
    }

    private static void inForms(Expect expect, NormalForms forms, String due, int... text) {
        forms.clear();
        Expect.addAll(forms, text);
        for (int form = 0; form <= 3; form++) {
            int asked = form;
            expect.answers(due.charAt(form) == '1', java.util.Arrays.toString(text) + " in " + form,
                () -> forms.isIn(asked));
        }
    }
}
