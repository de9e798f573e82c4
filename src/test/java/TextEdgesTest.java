/** Promises 7 to 12: the edges of the text and of its forms; each sentence by itself. */
public final class TextEdgesTest {
    private final Expect expect = new Expect();

    public static void main(String[] args) {
        TextEdgesTest test = new TextEdgesTest();
        test.noneToFive();
        test.upToTheFirstNone();
        test.upToAThousand();
        test.wholeAddIsRefused();
        test.clearedText();
        test.clearLeavesTheRest();
        test.firstAndLastForm();
        test.inPlaceOfTheFormBefore();
        test.twoThousandInEachForm();
        test.apartCountsNotTogether();
        test.formOfBeforeStays();
        test.fullTextInOrder();
        test.atItsEdges();
        test.atOfTheFormAskedForLast();
        test.keepWithoutAForm();
        test.keepOfAThousand();
        test.keepOfAnEmptyForm();
        test.keptTextIsTheFormOfThen();
        test.isInAtItsEdges();
        test.isInOfALongText();
        test.isInAsksForNoForm();
        test.expect.end();
    }

    private static NormalForms of(int... text) {
        NormalForms forms = new NormalForms();
        Expect.addAll(forms, text);
        return forms;
    }

    private void form(String due, NormalForms forms, int form, String what) {
        expect.same(due, what + ", form " + form, Expect.formOf(forms, form));
    }

    private static int length(NormalForms forms) {
        return forms.add(-1, -1, -1, -1, -1);
    }

    private static void addTimes(NormalForms forms, int character, int times) {
        for (int i = 0; i < times / 5; i++) {
            forms.add(character, character, character, character, character);
        }
        for (int i = 0; i < times % 5; i++) {
            forms.add(character, -1, -1, -1, -1);
        }
    }

    /** Promise 7: "Up to five characters more ..: how many the text has." */
    private void noneToFive() {
        NormalForms forms = new NormalForms();
        expect.answers(0, "add none", () -> forms.add(-1, -1, -1, -1, -1));
        expect.answers(1, "add one", () -> forms.add(1, -1, -1, -1, -1));
        expect.answers(3, "add two", () -> forms.add(2, 3, -1, -1, -1));
        expect.answers(6, "add three", () -> forms.add(4, 5, 6, -1, -1));
        expect.answers(10, "add four", () -> forms.add(7, 8, 9, 10, -1));
        expect.answers(15, "add five", () -> forms.add(11, 12, 13, 14, 15));
        expect.answers(15, "add none", () -> forms.add(-1, -1, -1, -1, -1));
        form("1 2 3 4 5 6 7 8 9 10 11 12 13 14 15", forms, 0, "one to five");
    }

    /** Promise 7: "up to the first that is NONE": what stands behind it is not added, nor looked at. */
    private void upToTheFirstNone() {
        NormalForms forms = new NormalForms();
        expect.answers(0, "NONE first", () -> forms.add(-1, 1, 2, 3, 4));
        expect.answers(1, "NONE second", () -> forms.add(1, -1, 2, 3, 4));
        expect.answers(3, "NONE third", () -> forms.add(2, 3, -1, 4, 5));
        expect.answers(6, "NONE fourth", () -> forms.add(4, 5, 6, -1, 7));
        expect.answers(10, "NONE fifth", () -> forms.add(7, 8, 9, 10, -1));
        expect.answers(11, "NONE twice", () -> forms.add(11, -1, 12, -1, 13));
        expect.answers(12, "no characters behind it", () -> forms.add(12, -1, -2, 1114112, Integer.MIN_VALUE));
        expect.answers(12, "no characters behind it", () -> forms.add(-1, -2, -2, -2, -2));
        form("1 2 3 4 5 6 7 8 9 10 11 12", forms, 0, "up to NONE");
    }

    /** Promise 7: "there would be more than 1000": 1000 there may be. */
    private void upToAThousand() {
        for (int last = 1; last <= 5; last++) {
            NormalForms forms = new NormalForms();
            addTimes(forms, 7, 1000 - last);
            expect.answers(1000 - last, "before it is full", () -> length(forms));
            int n = last;
            expect.answers(1000, "filled by " + n,
                () -> forms.add(8, n > 1 ? 8 : -1, n > 2 ? 8 : -1, n > 3 ? 8 : -1, n > 4 ? 8 : -1));
            expect.answers(Expect.STATE, "one more", () -> forms.add(9, -1, -1, -1, -1));
            expect.answers(Expect.STATE, "five more", () -> forms.add(9, 9, 9, 9, 9));
            expect.answers(Expect.ARGUMENT, "a wrong one more", () -> forms.add(9, 1114112, 9, 9, 9));
            expect.answers(1000, "none more", () -> forms.add(-1, 9, 9, 9, 9));
            expect.answers(1000, "form", () -> forms.form(0));
            expect.answers(7, "the last of before", () -> forms.at(999 - n));
            expect.answers(8, "the first of the added", () -> forms.at(1000 - n));
            expect.answers(8, "the last of the added", () -> forms.at(999));
            expect.answers(1000, "clear", forms::clear);
            expect.answers(1, "room again", () -> forms.add(9, -1, -1, -1, -1));
        }
    }

    /** Promise 7, and "a call that throws changes nothing": not even those that had room are added. */
    private void wholeAddIsRefused() {
        NormalForms forms = new NormalForms();
        addTimes(forms, 7, 996);
        expect.answers(Expect.STATE, "five where four have room", () -> forms.add(1, 2, 3, 4, 5));
        expect.answers(996, "none of them was added", () -> length(forms));
        expect.answers(Expect.ARGUMENT, "four, the last of them wrong", () -> forms.add(1, 2, 3, -2, -1));
        expect.answers(996, "none of them was added", () -> length(forms));
        expect.answers(1000, "four", () -> forms.add(6, 6, 6, 6, -1));
        forms.form(1);
        expect.answers(6, "only the four", () -> forms.at(996));
    }

    /** Promise 8: "The text is empty; how many characters it had." */
    private void clearedText() {
        NormalForms forms = new NormalForms();
        expect.answers(0, "clear of no text", forms::clear);
        forms.add(1, -1, -1, -1, -1);
        expect.answers(1, "clear of one", forms::clear);
        expect.answers(0, "clear again", forms::clear);
        expect.answers(0, "no readers", forms::readers);
        expect.answers(false, "no end", () -> forms.ends(0));
        expect.answers(Expect.PLACE, "no place 1", () -> forms.ends(1));
        form("", forms, 0, "no characters");
        addTimes(forms, 7, 1000);
        expect.answers(1000, "clear of a full text", forms::clear);
        expect.answers(0, "it is empty", () -> length(forms));
    }

    /** Promise 8: it says nothing of tables, and nothing of the form asked for. */
    private void clearLeavesTheRest() {
        NormalForms forms = of(100, 20, 10);
        forms.mark(10, 10, 1);
        forms.mark(20, 20, 2);
        forms.property(20, 20, 4);
        forms.part(100, 1, 2);
        forms.part(101, 3, 4);
        forms.loose(200, 5, 6, 7);
        forms.exclude(101, true);
        form("1 2 10 20", forms, 0, "before clear");
        forms.clear();
        expect.same("1 2 10 20", "at behind clear", Expect.shown(forms));
        forms.add(200, 100, 20, 10, 101);
        form("5 6 7 100 10 20 3 4", forms, 3, "tables behind clear");
        expect.answers(9, "kinds behind clear", () -> forms.rule(2));
    }

    /** Promise 9: "a form 0 .. 3"; "there is no such form". */
    private void firstAndLastForm() {
        NormalForms forms = of(100, 200);
        forms.part(100, 1, 2);
        forms.loose(200, 3, 4, -1);
        expect.answers(Expect.ARGUMENT, "form -1", () -> forms.form(-1));
        expect.answers(-1, "none was asked for", () -> forms.at(0));
        expect.answers(3, "form 0", () -> forms.form(0));
        expect.answers(2, "form 1", () -> forms.form(1));
        expect.answers(4, "form 2", () -> forms.form(2));
        expect.answers(3, "form 3", () -> forms.form(3));
        expect.answers(Expect.ARGUMENT, "form 4", () -> forms.form(4));
        expect.same("100 3 4", "form 3 stays", Expect.shown(forms));
    }

    /** Promise 9: "in place of the form asked for before": also a longer one. */
    private void inPlaceOfTheFormBefore() {
        NormalForms forms = of(100, 100, 7);
        forms.part(100, 1, 2);
        form("1 2 1 2 7", forms, 0, "the longer one");
        form("100 100 7", forms, 1, "the shorter one in its place");
        expect.answers(-1, "nothing is left of the longer one", () -> forms.at(3));
        expect.answers(-1, "nothing is left of the longer one", () -> forms.at(4));
        forms.clear();
        expect.answers(0, "form of no text", () -> forms.form(0));
        expect.answers(-1, "nothing is left of it", () -> forms.at(0));
    }

    /** Promise 9: "taken apart it would have more than 2000": 2000 it may have, in each form. */
    private void twoThousandInEachForm() {
        for (int form = 0; form <= 3; form++) {
            int asked = form;
            NormalForms forms = new NormalForms();
            forms.part(100, 1, 2);
            forms.part(101, 100, 100);
            forms.exclude(100, true);
            addTimes(forms, 101, 499);
            forms.add(100, 7, -1, -1, -1);
            expect.answers(1999, "1999 in form " + form, () -> forms.form(asked));
            expect.answers(7, "the last of 1999", () -> forms.at(1998));
            expect.answers(-1, "behind it", () -> forms.at(1999));
            forms.add(8, -1, -1, -1, -1);
            expect.answers(2000, "2000 in form " + form, () -> forms.form(asked));
            expect.answers(8, "the last of 2000", () -> forms.at(1999));
            expect.answers(-1, "behind it", () -> forms.at(2000));
            forms.add(9, -1, -1, -1, -1);
            expect.answers(Expect.STATE, "2001 in form " + form, () -> forms.form(asked));
            expect.answers(8, "the form of before stays", () -> forms.at(1999));
            expect.answers(-1, "behind it", () -> forms.at(2000));
        }
    }

    /** Promise 9: it is what is taken apart that counts, though put together it be short; and loose rows in 2, 3. */
    private void apartCountsNotTogether() {
        NormalForms forms = new NormalForms();
        forms.part(100, 1, 2);
        addTimes(forms, 100, 1000);
        expect.answers(2000, "apart", () -> forms.form(0));
        expect.answers(1000, "together", () -> forms.form(1));
        forms.part(1, 3, 4);
        expect.answers(Expect.STATE, "3000 apart", () -> forms.form(0));
        expect.answers(Expect.STATE, "3000 apart, 1000 together", () -> forms.form(1));
        NormalForms loose = new NormalForms();
        loose.loose(200, 1, 2, 3);
        addTimes(loose, 200, 666);
        loose.add(7, 7, -1, -1, -1);
        expect.answers(668, "loose rows do not count in form 0", () -> loose.form(0));
        expect.answers(2000, "in form 2 they do", () -> loose.form(2));
        loose.add(7, -1, -1, -1, -1);
        expect.answers(669, "nor in form 1", () -> loose.form(1));
        expect.answers(Expect.STATE, "2001 in form 2", () -> loose.form(2));
        expect.answers(Expect.STATE, "2001 in form 3", () -> loose.form(3));
        expect.answers(200, "form 1 stays", () -> loose.at(665));
        NormalForms syllables = new NormalForms();
        addTimes(syllables, 44033, 666);
        syllables.add(44032, -1, -1, -1, -1);
        expect.answers(2000, "syllables count by their parts", () -> syllables.form(0));
        syllables.add(7, -1, -1, -1, -1);
        expect.answers(Expect.STATE, "2001 parts of syllables", () -> syllables.form(1));
    }

    /** Promise 9: "(the form of before stays)": with and without one. */
    private void formOfBeforeStays() {
        NormalForms forms = new NormalForms();
        forms.loose(200, 1, 2, 3);
        addTimes(forms, 200, 667);
        expect.answers(Expect.STATE, "the first form is too long", () -> forms.form(2));
        expect.answers(-1, "there is no form", () -> forms.at(0));
        expect.answers(667, "so the text stays", forms::keep);
        expect.answers(667, "one that is not", () -> forms.form(0));
        expect.answers(Expect.STATE, "the next is too long", () -> forms.form(3));
        expect.answers(200, "the form of before", () -> forms.at(666));
        expect.answers(-1, "the form of before", () -> forms.at(667));
        expect.answers(667, "is kept", forms::keep);
        expect.answers(667, "is kept", () -> length(forms));
    }

    /** Promise 9 at its longest: 2000 characters, all of them to be put in order. */
    private void fullTextInOrder() {
        NormalForms forms = new NormalForms();
        forms.mark(20, 20, 254);
        forms.mark(10, 10, 1);
        forms.part(100, 20, 10);
        addTimes(forms, 100, 1000);
        expect.answers(2000, "2000 marks", () -> forms.form(0));
        expect.answers(10, "the first", () -> forms.at(0));
        expect.answers(10, "the last of class 1", () -> forms.at(999));
        expect.answers(20, "the first of class 254", () -> forms.at(1000));
        expect.answers(20, "the last", () -> forms.at(1999));
        expect.answers(2000, "they have none to be put together with", () -> forms.form(3));
    }

    /** Promise 10: "NONE if there is none such". */
    private void atItsEdges() {
        NormalForms forms = of(5, 6, 7);
        int[] all = {Integer.MIN_VALUE, -2, -1, 0, 1, 2, 3, 999, 1000, 1999, 2000, Integer.MAX_VALUE};
        for (int i : all) {
            expect.answers(-1, "at " + i + " without a form", () -> forms.at(i));
        }
        forms.form(0);
        for (int i : all) {
            expect.answers(i >= 0 && i <= 2 ? 5 + i : -1, "at " + i, () -> forms.at(i));
        }
    }

    /** Promise 10: "of the form asked for last", whatever is told, added or cleared since. */
    private void atOfTheFormAskedForLast() {
        NormalForms forms = of(5, 6);
        forms.form(0);
        forms.part(5, 1, 2);
        forms.add(7, -1, -1, -1, -1);
        expect.same("5 6", "the form of then", Expect.shown(forms));
        forms.mark(5, 6, 3);
        forms.clear();
        expect.same("5 6", "the form of then", Expect.shown(forms));
        forms.keep();
        expect.same("5 6", "the form of then, kept", Expect.shown(forms));
        form("1 2 6", forms, 0, "another form");
    }

    /** Promise 11: "(if none was, it stays as it is): how many characters it has". */
    private void keepWithoutAForm() {
        NormalForms forms = new NormalForms();
        expect.answers(0, "keep of no text", forms::keep);
        addTimes(forms, 7, 1000);
        expect.answers(1000, "keep without a form", forms::keep);
        expect.answers(Expect.ARGUMENT, "no such form", () -> forms.form(4));
        expect.answers(true, "isIn", () -> forms.isIn(0));
        expect.answers(1000, "none was asked for", forms::keep);
        forms.clear();
        forms.add(8, -1, -1, -1, -1);
        expect.answers(1, "none was asked for", forms::keep);
        form("8", forms, 0, "the text stays");
    }

    /** Promise 11: "that are more than 1000": 1000 may be kept. */
    private void keepOfAThousand() {
        NormalForms forms = new NormalForms();
        forms.part(100, 1, 2);
        addTimes(forms, 100, 500);
        expect.answers(1000, "form of 1000", () -> forms.form(0));
        forms.add(7, -1, -1, -1, -1);
        expect.answers(1000, "keep of 1000", forms::keep);
        expect.answers(true, "the text is the form", () -> forms.isIn(0));
        expect.answers(Expect.STATE, "the text is full", () -> forms.add(7, -1, -1, -1, -1));
        expect.answers(500, "together", () -> forms.form(1));
        expect.answers(500, "keep of 500", forms::keep);
        forms.add(7, -1, -1, -1, -1);
        expect.answers(1001, "form of 1001", () -> forms.form(0));
        expect.answers(Expect.STATE, "keep of 1001", forms::keep);
        expect.answers(501, "the text stays", () -> length(forms));
        expect.answers(7, "the form stays", () -> forms.at(1000));
        expect.answers(501, "a form that may be kept", () -> forms.form(1));
        expect.answers(501, "keep of 501", forms::keep);
    }

    /** Promise 11: a form without characters is a form. */
    private void keepOfAnEmptyForm() {
        NormalForms forms = new NormalForms();
        expect.answers(0, "form of no text", () -> forms.form(1));
        forms.add(1, 2, 3, -1, -1);
        expect.answers(0, "keep of a form without characters", forms::keep);
        expect.answers(0, "the text is empty", () -> length(forms));
        expect.answers(false, "the text is empty", () -> forms.ends(0));
    }

    /** Promise 11: "The text becomes the form asked for last": again and again, in place of longer and shorter ones. */
    private void keptTextIsTheFormOfThen() {
        NormalForms forms = of(100, 7);
        forms.part(100, 1, 2);
        forms.form(0);
        expect.answers(3, "a longer one", forms::keep);
        expect.answers(3, "again", forms::keep);
        Expect.addAll(forms, 8, 9);
        expect.answers(3, "a shorter one", forms::keep);
        forms.clear();
        expect.answers(3, "behind clear", forms::keep);
        form("1 2 7", forms, 0, "kept");
        form("100 7", forms, 1, "kept");
        expect.answers(2, "the one asked for last", forms::keep);
        expect.answers(2, "the one asked for last", () -> length(forms));
    }

    /** Promise 12: "the same as that form of it": no text, as long but another, a part of it; "no such form". */
    private void isInAtItsEdges() {
        NormalForms forms = new NormalForms();
        forms.mark(10, 10, 1);
        forms.mark(20, 20, 2);
        forms.part(100, 1, 10);
        forms.part(101, 2, -1);
        for (int form = 0; form <= 3; form++) {
            int asked = form;
            expect.answers(true, "no text in " + form, () -> forms.isIn(asked));
            forms.add(3, 20, 10, -1, -1);
            expect.answers(false, "as long, but another, in " + form, () -> forms.isIn(asked));
            forms.clear();
            forms.add(3, 101, -1, -1, -1);
            expect.answers(false, "the last is another, in " + form, () -> forms.isIn(asked));
            forms.clear();
            forms.add(101, 3, -1, -1, -1);
            expect.answers(false, "the first is another, in " + form, () -> forms.isIn(asked));
            forms.clear();
            forms.add(1, 10, -1, -1, -1);
            expect.answers(form % 2 == 0, "longer than its form, in " + form, () -> forms.isIn(asked));
            forms.clear();
            forms.add(100, -1, -1, -1, -1);
            expect.answers(form % 2 == 1, "shorter than its form, in " + form, () -> forms.isIn(asked));
            forms.clear();
        }
        expect.answers(Expect.ARGUMENT, "isIn -1", () -> forms.isIn(-1));
        expect.answers(Expect.ARGUMENT, "isIn 4", () -> forms.isIn(4));
    }

    /** Promise 12: "IllegalState, as with form": 2000 may be, 2001 not; a full text. */
    private void isInOfALongText() {
        NormalForms forms = new NormalForms();
        forms.part(100, 1, 2);
        addTimes(forms, 100, 1000);
        expect.answers(false, "2000 in 0", () -> forms.isIn(0));
        expect.answers(true, "2000 in 1", () -> forms.isIn(1));
        NormalForms longer = new NormalForms();
        longer.part(100, 1, 2);
        longer.loose(200, 100, 3, -1);
        addTimes(longer, 100, 999);
        longer.add(200, -1, -1, -1, -1);
        expect.answers(false, "1999 in 0", () -> longer.isIn(0));
        expect.answers(true, "1999 in 1", () -> longer.isIn(1));
        expect.answers(Expect.STATE, "2001 in 2", () -> longer.isIn(2));
        expect.answers(Expect.STATE, "2001 in 3", () -> longer.isIn(3));
        expect.answers(Expect.ARGUMENT, "2001 in 4", () -> longer.isIn(4));
        NormalForms full = new NormalForms();
        addTimes(full, 7, 1000);
        expect.answers(true, "1000 in 0", () -> full.isIn(0));
        full.part(7, 8, -1);
        expect.answers(false, "1000 in 0, all others", () -> full.isIn(0));
    }

    /** Promise 12: "(which is not asked for by this)". */
    private void isInAsksForNoForm() {
        NormalForms forms = of(100);
        forms.part(100, 1, 2);
        expect.answers(false, "isIn 0", () -> forms.isIn(0));
        expect.answers(-1, "no form was asked for", () -> forms.at(0));
        expect.answers(1, "no form was asked for", forms::keep);
        forms.form(1);
        expect.answers(false, "isIn 2", () -> forms.isIn(2));
        expect.same("100", "form 1 stays", Expect.shown(forms));
        expect.answers(1, "form 1 is kept", forms::keep);
    }
}
