/** Promise 1: a new object. */
public final class NewObjectTest {
    public static void main(String[] args) {
        Expect expect = new Expect();
        NormalForms forms = new NormalForms();
        expect.answers(0, "clear()", forms::clear);
        expect.answers(0, "readers()", forms::readers);
        expect.answers(-1, "at(0) without a form", () -> forms.at(0));
        expect.answers(0, "keep() without a form", forms::keep);
        for (int form = 0; form <= 3; form++) {
            int asked = form;
            expect.answers(true, "isIn of no text", () -> forms.isIn(asked));
            expect.answers(0, "form of no text", () -> forms.form(asked));
        }
        charactersAreBare(expect, 192);
        charactersAreBare(expect, 769);
        charactersAreBare(expect, 0);
        charactersAreBare(expect, 1114111);
        objectsAreApart(expect);
        expect.end();
    }

    /** Without class, kind and rows a character stays where it is, and is one for the reader. */
    private static void charactersAreBare(Expect expect, int character) {
        NormalForms forms = new NormalForms();
        Expect.addAll(forms, 65, character, 10, character);
        for (int form = 0; form <= 3; form++) {
            expect.same("65 " + character + " 10 " + character, "form " + form, Expect.formOf(forms, form));
        }
        expect.answers(4, "readers() without kinds", forms::readers);
        for (int place = 1; place < 4; place++) {
            int asked = place;
            expect.answers(999, "rule without kinds", () -> forms.rule(asked));
        }
    }

    private static void objectsAreApart(Expect expect) {
        NormalForms first = new NormalForms();
        first.part(192, 65, 768);
        first.mark(768, 768, 230);
        first.property(768, 768, 4);
        first.add(192, 192, -1, -1, -1);
        first.form(0);
        NormalForms second = new NormalForms();
        expect.answers(-1, "at(0) of another object", () -> second.at(0));
        expect.answers(2, "add to another object", () -> second.add(192, 768, -1, -1, -1));
        expect.answers(2, "form(0) of another object", () -> second.form(0));
        expect.answers(2, "readers() of another object", second::readers);
    }
}
