/** Promises 7, 8, 10 and 11: add, clear, at and keep. */
public final class TextTest {
    public static void main(String[] args) {
        Expect expect = new Expect();
        adding(expect);
        addsAreRefused(expect);
        fullText(expect);
        clearing(expect);
        formStays(expect);
        keeping(expect);
        keepsAreRefused(expect);
        expect.end();
    }

    private static void adding(Expect expect) {
        NormalForms forms = new NormalForms();
        expect.answers(5, "add five", () -> forms.add(1, 2, 3, 4, 5));
        expect.answers(9, "add four", () -> forms.add(6, 7, 8, 9, -1));
        expect.answers(9, "add none", () -> forms.add(-1, 1, 2, 3, 4));
        expect.answers(10, "add up to the first that is none", () -> forms.add(10, -1, 11, 12, 13));
        expect.answers(11, "what comes behind it is not looked at", () -> forms.add(0, -1, -2, 1114112, -7));
        expect.answers(12, "add the last", () -> forms.add(1114111, -1, -1, -1, -1));
        expect.same("1 2 3 4 5 6 7 8 9 10 0 1114111", "the text", Expect.formOf(forms, 1));
    }

    private static void addsAreRefused(Expect expect) {
        NormalForms forms = new NormalForms();
        forms.add(1, 2, -1, -1, -1);
        expect.answers(Expect.ARGUMENT, "a below", () -> forms.add(-2, 1, 1, 1, 1));
        expect.answers(Expect.ARGUMENT, "b above", () -> forms.add(1, 1114112, 1, 1, 1));
        expect.answers(Expect.ARGUMENT, "c above", () -> forms.add(1, 1, Integer.MAX_VALUE, 1, 1));
        expect.answers(Expect.ARGUMENT, "d below", () -> forms.add(1, 1, 1, Integer.MIN_VALUE, 1));
        expect.answers(Expect.ARGUMENT, "e below", () -> forms.add(1, 1, 1, 1, -2));
        expect.same("1 2", "nothing was added", Expect.formOf(forms, 0));
    }

    private static void fullText(Expect expect) {
        NormalForms forms = new NormalForms();
        for (int i = 0; i < 199; i++) {
            forms.add(1, 2, 3, 4, 5);
        }
        expect.answers(998, "add up to 998", () -> forms.add(1, 2, 3, -1, -1));
        expect.answers(Expect.STATE, "three more", () -> forms.add(1, 2, 3, -1, -1));
        expect.answers(Expect.ARGUMENT, "a wrong one first", () -> forms.add(1, 2, 3, 4, -2));
        expect.answers(1000, "two more", () -> forms.add(8, 9, -1, 5, 5));
        expect.answers(Expect.STATE, "one more", () -> forms.add(1, -1, -1, -1, -1));
        expect.answers(1000, "none more", () -> forms.add(-1, -1, -1, -1, -1));
        expect.answers(1000, "its form", () -> forms.form(0));
        expect.answers(9, "its last", () -> forms.at(999));
        expect.answers(-1, "behind its last", () -> forms.at(1000));
        expect.answers(1000, "its readers", forms::readers);
        expect.answers(1000, "clear()", forms::clear);
    }

    private static void clearing(Expect expect) {
        NormalForms forms = new NormalForms();
        forms.part(100, 1, 2);
        forms.add(100, 100, 7, -1, -1);
        expect.answers(3, "clear()", forms::clear);
        expect.answers(0, "clear() again", forms::clear);
        expect.answers(Expect.PLACE, "no place 1", () -> forms.rule(1));
        expect.answers(1, "add", () -> forms.add(100, -1, -1, -1, -1));
        expect.same("1 2", "rows stay", Expect.formOf(forms, 0));
    }

    /** The form asked for last is what the text was then, whatever becomes of the text. */
    private static void formStays(Expect expect) {
        NormalForms forms = new NormalForms();
        forms.part(100, 1, 2);
        forms.add(100, 3, -1, -1, -1);
        expect.answers(-1, "at(0) before a form", () -> forms.at(0));
        expect.answers(3, "form(0)", () -> forms.form(0));
        forms.add(4, -1, -1, -1, -1);
        expect.same("1 2 3", "the form stays, whatever is added", Expect.shown(forms));
        forms.clear();
        expect.same("1 2 3", "the form stays, the text being empty", Expect.shown(forms));
        forms.exclude(100, true);
        forms.mark(1, 3, 9);
        expect.same("1 2 3", "the form stays, whatever is told", Expect.shown(forms));
        expect.answers(Expect.ARGUMENT, "form(7)", () -> forms.form(7));
        expect.same("1 2 3", "the form stays behind a wrong one", Expect.shown(forms));
        expect.answers(true, "isIn(2)", () -> forms.isIn(2));
        expect.same("1 2 3", "isIn asks for no form", Expect.shown(forms));
        expect.answers(-1, "at(3)", () -> forms.at(3));
        expect.answers(-1, "at(-1)", () -> forms.at(-1));
        expect.answers(-1, "at(MIN)", () -> forms.at(Integer.MIN_VALUE));
        expect.answers(-1, "at(MAX)", () -> forms.at(Integer.MAX_VALUE));
        expect.answers(3, "keep() after clear()", forms::keep);
        expect.answers(3, "the text is the form again", forms::clear);
        expect.answers(0, "form(0) of no text", () -> forms.form(0));
        expect.answers(-1, "at(0) of a shorter form", () -> forms.at(0));
        forms.add(9, -1, -1, -1, -1);
        expect.answers(0, "keep() of a form without characters", forms::keep);
    }

    private static void keeping(Expect expect) {
        NormalForms forms = new NormalForms();
        forms.part(100, 1, 2);
        forms.add(100, 3, -1, -1, -1);
        expect.answers(2, "keep() without a form", forms::keep);
        expect.same("100 3", "the text stays", Expect.formOf(forms, 1));
        expect.answers(3, "form(0)", () -> forms.form(0));
        expect.answers(3, "keep()", forms::keep);
        expect.answers(4, "add behind it", () -> forms.add(100, -1, -1, -1, -1));
        expect.same("1 2 3", "at is still the form", Expect.shown(forms));
        expect.answers(3, "keep() again", forms::keep);
        expect.answers(true, "isIn(0)", () -> forms.isIn(0));
        expect.answers(3, "readers of the kept text", forms::readers);
    }

    private static void keepsAreRefused(Expect expect) {
        NormalForms forms = new NormalForms();
        forms.part(100, 1, 1);
        for (int i = 0; i < 100; i++) {
            forms.add(100, 100, 100, 100, 100);
        }
        expect.answers(1000, "form of 1000", () -> forms.form(0));
        expect.answers(1000, "keep of 1000", forms::keep);
        forms.clear();
        for (int i = 0; i < 100; i++) {
            forms.add(100, 100, 100, 100, 100);
        }
        forms.add(1, -1, -1, -1, -1);
        expect.answers(1001, "form of 1001", () -> forms.form(0));
        expect.answers(Expect.STATE, "keep of 1001", forms::keep);
        expect.answers(1, "the form stays", () -> forms.at(1000));
        expect.answers(501, "the text stays", forms::clear);
    }
}
