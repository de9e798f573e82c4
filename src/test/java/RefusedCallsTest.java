/**
 * Terms: "A call that throws changes nothing; where it lists more than one exception, the first one
 * wins. IllegalArgument: also where a character is none." Each refused call of each promise, in an
 * object that is new, in use, and full, with what later calls show of it.
 */
public final class RefusedCallsTest {
    private static final int MIN = Integer.MIN_VALUE, MAX = Integer.MAX_VALUE;
    private static final int[] NO_CHARACTERS = {-2, MIN, 1114112, MAX};
    private static final int[] NO_FORMS = {-1, 4, MIN, MAX};

    private final Expect expect = new Expect();

    public static void main(String[] args) {
        new RefusedCallsTest().run();
    }

    private void run() {
        Twins fresh = new Twins(expect, "new", forms -> { });
        Twins used = new Twins(expect, "in use", RefusedCallsTest::use);
        Twins full = new Twins(expect, "full", RefusedCallsTest::fill);
        looksSeeChanges(used);
        for (Twins twins : new Twins[] {fresh, used, full}) {
            wrongRanges(twins);
            wrongPartRows(twins);
            wrongLooseRows(twins);
            wrongExcludes(twins);
            wrongAdds(twins);
            wrongForms(twins);
        }
        for (Twins twins : new Twins[] {used, full}) {
            rowsAgainstOthers(twins);
        }
        wrongPlaces(fresh, 0);
        wrongPlaces(used, 6);
        wrongPlaces(full, 1000);
        fullTables(full);
        fullText(full);
        tooLongForms();
        tooLongKeeps();
        expect.end();
    }

    /** Tables with something in each, a text, and a form asked for that is not the text. */
    private static void use(NormalForms forms) {
        forms.mark(10, 19, 1);
        forms.mark(20, 29, 2);
        forms.property(10, 29, 4);
        forms.property(30, 30, 14);
        forms.part(100, 1, 10);
        forms.part(101, 100, 20);
        forms.part(102, 2, -1);
        forms.part(103, 5, 10);
        forms.loose(200, 3, 100, 4);
        forms.exclude(103, true);
        forms.add(101, 20, 10, 200, 103);
        forms.add(30, -1, -1, -1, -1);
        forms.form(0);
    }

    /** The same tables, filled up with what lies far off; 1000 characters, and a form that is not the text. */
    private static void fill(NormalForms forms) {
        use(forms);
        for (int i = 0; i < 58; i++) {
            forms.mark(500000 + i, 500000 + i, 3);
            forms.property(500000 + i, 500000 + i, 6);
        }
        for (int i = 0; i < 59; i++) {
            forms.exclude(500000 + i, true);
        }
        for (int i = 0; i < 3; i++) {
            forms.part(300 + i, 301 + i, 301 + i);
        }
        for (int i = 0; i < 112; i++) {
            forms.loose(500000 + i, 500200, -1, -1);
        }
        forms.clear();
        for (int i = 0; i < 25; i++) {
            forms.add(300, 300, 300, 300, 300);
        }
        forms.form(2);
        forms.keep();
        forms.form(1);
    }

    private void looksSeeChanges(Twins twins) {
        twins.change("mark", forms -> forms.mark(7, 7, 1));
        twins.change("mark as before", forms -> forms.mark(10, 19, 1));
        twins.change("property", forms -> forms.property(7, 7, 4));
        twins.change("property as before", forms -> forms.property(30, 30, 14));
        twins.change("part", forms -> forms.part(7, 8, 9));
        twins.change("loose", forms -> forms.loose(7, 8, -1, -1));
        twins.change("exclude", forms -> forms.exclude(100, true));
        twins.change("exclude no more", forms -> forms.exclude(103, false));
        twins.change("add", forms -> forms.add(7, -1, -1, -1, -1));
        twins.change("clear", NormalForms::clear);
        twins.change("form", forms -> forms.form(1));
        twins.change("keep", NormalForms::keep);
    }

    /** Promises 2 and 3: "first is above last, or there is no such class", "no such kind". */
    private void wrongRanges(Twins twins) {
        int[][] ranges = {
            {8, 7}, {1114111, 0}, {1, 0}, {1114111, 1114110}, {-1, -1}, {-1, 0}, {-1, 7}, {1114112, 1114112},
            {1114111, 1114112}, {7, 1114112}, {-1, 1114112}, {MIN, MAX}, {MAX, MIN}, {MIN, 7}, {7, MAX},
        };
        for (int[] range : ranges) {
            String what = "(" + range[0] + ", " + range[1] + ", 4)";
            twins.refuse(Expect.ARGUMENT, "mark" + what, forms -> forms.mark(range[0], range[1], 4));
            twins.refuse(Expect.ARGUMENT, "property" + what, forms -> forms.property(range[0], range[1], 4));
        }
        for (int value : new int[] {-1, -2, 255, 256, MIN, MAX}) {
            twins.refuse(Expect.ARGUMENT, "mark(7, 7, " + value + ")", forms -> forms.mark(7, 7, value));
        }
        for (int value : new int[] {-1, -2, 15, 16, MIN, MAX}) {
            twins.refuse(Expect.ARGUMENT, "property(7, 7, " + value + ")", forms -> forms.property(7, 7, value));
        }
    }

    /** Promise 4: "it is a syllable"; "a or b is no character (b may be NONE)"; a would give the character. */
    private void wrongPartRows(Twins twins) {
        for (int none : NO_CHARACTERS) {
            twins.refuse(Expect.ARGUMENT, "part of " + none, forms -> forms.part(none, 7, 8));
            twins.refuse(Expect.ARGUMENT, "part with a " + none, forms -> forms.part(7, none, 8));
            twins.refuse(Expect.ARGUMENT, "part with a alone " + none, forms -> forms.part(7, none, -1));
            twins.refuse(Expect.ARGUMENT, "part with b " + none, forms -> forms.part(7, 8, none));
        }
        twins.refuse(Expect.ARGUMENT, "part of NONE", forms -> forms.part(-1, 7, 8));
        twins.refuse(Expect.ARGUMENT, "part with a NONE", forms -> forms.part(7, -1, 8));
        twins.refuse(Expect.ARGUMENT, "part of nothing", forms -> forms.part(7, -1, -1));
        for (int syllable : new int[] {44032, 44033, 44060, 50000, 55176, 55202, 55203}) {
            twins.refuse(Expect.ARGUMENT, "part of syllable " + syllable, forms -> forms.part(syllable, 7, 8));
            twins.refuse(Expect.ARGUMENT, "part of one, of " + syllable, forms -> forms.part(syllable, 7, -1));
        }
        twins.refuse(Expect.ARGUMENT, "the row of 44032", forms -> forms.part(7, 4352, 4449));
        twins.refuse(Expect.ARGUMENT, "the row of 44033", forms -> forms.part(7, 44032, 4520));
        twins.refuse(Expect.ARGUMENT, "the row of 55203", forms -> forms.part(7, 55176, 4546));
        twins.refuse(Expect.ARGUMENT, "a is itself", forms -> forms.part(7, 7, 8));
        twins.refuse(Expect.ARGUMENT, "b is itself", forms -> forms.part(7, 8, 7));
        twins.refuse(Expect.ARGUMENT, "a alone is itself", forms -> forms.part(7, 7, -1));
        twins.refuse(Expect.ARGUMENT, "a syllable gives its l", forms -> forms.part(4352, 44033, -1));
        twins.refuse(Expect.ARGUMENT, "a syllable gives its v", forms -> forms.part(4449, 7, 44033));
        twins.refuse(Expect.ARGUMENT, "a syllable gives its t", forms -> forms.part(4520, 44033, -1));
    }

    /** Promise 5: "b or c neither that nor NONE, or c is not NONE though b is". */
    private void wrongLooseRows(Twins twins) {
        for (int none : NO_CHARACTERS) {
            twins.refuse(Expect.ARGUMENT, "loose of " + none, forms -> forms.loose(none, 7, 8, 9));
            twins.refuse(Expect.ARGUMENT, "loose with a " + none, forms -> forms.loose(7, none, 8, 9));
            twins.refuse(Expect.ARGUMENT, "loose with b " + none, forms -> forms.loose(7, 8, none, 9));
            twins.refuse(Expect.ARGUMENT, "loose with b alone " + none, forms -> forms.loose(7, 8, none, -1));
            twins.refuse(Expect.ARGUMENT, "loose with c " + none, forms -> forms.loose(7, 8, 9, none));
            twins.refuse(Expect.ARGUMENT, "loose without b, c " + none, forms -> forms.loose(7, 8, -1, none));
        }
        twins.refuse(Expect.ARGUMENT, "loose of NONE", forms -> forms.loose(-1, 7, 8, 9));
        twins.refuse(Expect.ARGUMENT, "loose with a NONE", forms -> forms.loose(7, -1, 8, 9));
        twins.refuse(Expect.ARGUMENT, "loose of nothing", forms -> forms.loose(7, -1, -1, -1));
        twins.refuse(Expect.ARGUMENT, "c though b is NONE", forms -> forms.loose(7, 8, -1, 9));
        twins.refuse(Expect.ARGUMENT, "c 0 though b is NONE", forms -> forms.loose(7, 8, -1, 0));
        for (int syllable : new int[] {44032, 44033, 55202, 55203}) {
            twins.refuse(Expect.ARGUMENT, "loose of syllable " + syllable, forms -> forms.loose(syllable, 7, 8, 9));
        }
        twins.refuse(Expect.ARGUMENT, "loose a is itself", forms -> forms.loose(7, 7, -1, -1));
        twins.refuse(Expect.ARGUMENT, "loose b is itself", forms -> forms.loose(7, 8, 7, -1));
        twins.refuse(Expect.ARGUMENT, "loose c is itself", forms -> forms.loose(7, 8, 9, 7));
        twins.refuse(Expect.ARGUMENT, "loose by a syllable", forms -> forms.loose(4449, 8, 9, 44033));
    }

    /** Promises 4 and 5: "has a row", "has just that row already", "even with LOOSE rows". */
    private void rowsAgainstOthers(Twins twins) {
        for (int told : new int[] {100, 102, 103, 200}) {
            twins.refuse(Expect.ARGUMENT, "part of a told " + told, forms -> forms.part(told, 7, 8));
            twins.refuse(Expect.ARGUMENT, "loose of a told " + told, forms -> forms.loose(told, 7, -1, -1));
        }
        twins.refuse(Expect.ARGUMENT, "part as before", forms -> forms.part(100, 1, 10));
        twins.refuse(Expect.ARGUMENT, "loose as before", forms -> forms.loose(200, 3, 100, 4));
        twins.refuse(Expect.ARGUMENT, "the row of another", forms -> forms.part(7, 1, 10));
        twins.refuse(Expect.ARGUMENT, "the row of an excluded one", forms -> forms.part(7, 5, 10));
        twins.refuse(Expect.ARGUMENT, "part gives itself by a", forms -> forms.part(1, 100, 7));
        twins.refuse(Expect.ARGUMENT, "part gives itself by b", forms -> forms.part(10, 7, 101));
        twins.refuse(Expect.ARGUMENT, "part gives itself alone", forms -> forms.part(2, 102, -1));
        twins.refuse(Expect.ARGUMENT, "part gives itself by a loose row", forms -> forms.part(1, 7, 200));
        twins.refuse(Expect.ARGUMENT, "loose gives itself by a", forms -> forms.loose(1, 101, -1, -1));
        twins.refuse(Expect.ARGUMENT, "loose gives itself by b", forms -> forms.loose(4, 7, 200, -1));
        twins.refuse(Expect.ARGUMENT, "loose gives itself by c", forms -> forms.loose(20, 7, 8, 101));
    }

    /** Promise 6: "IllegalArgument", whichever way it is told. */
    private void wrongExcludes(Twins twins) {
        for (int none : new int[] {-1, -2, MIN, 1114112, MAX}) {
            twins.refuse(Expect.ARGUMENT, "exclude " + none, forms -> forms.exclude(none, true));
            twins.refuse(Expect.ARGUMENT, "exclude not " + none, forms -> forms.exclude(none, false));
        }
    }

    /** Promise 7: "IllegalArgument", at each of the five, and none of those before it is added. */
    private void wrongAdds(Twins twins) {
        for (int none : NO_CHARACTERS) {
            twins.refuse(Expect.ARGUMENT, "add with a " + none, forms -> forms.add(none, 7, 7, 7, 7));
            twins.refuse(Expect.ARGUMENT, "add with b " + none, forms -> forms.add(7, none, 7, 7, 7));
            twins.refuse(Expect.ARGUMENT, "add with c " + none, forms -> forms.add(7, 7, none, 7, 7));
            twins.refuse(Expect.ARGUMENT, "add with d " + none, forms -> forms.add(7, 7, 7, none, 7));
            twins.refuse(Expect.ARGUMENT, "add with e " + none, forms -> forms.add(7, 7, 7, 7, none));
            twins.refuse(Expect.ARGUMENT, "add of one " + none, forms -> forms.add(none, -1, -1, -1, -1));
            twins.refuse(Expect.ARGUMENT, "add of two, " + none, forms -> forms.add(7, none, -1, -1, -1));
        }
    }

    /** Promises 9 and 12: "there is no such form". */
    private void wrongForms(Twins twins) {
        for (int form : NO_FORMS) {
            twins.refuse(Expect.ARGUMENT, "form " + form, forms -> forms.form(form));
            twins.refuse(Expect.ARGUMENT, "isIn " + form, forms -> forms.isIn(form));
        }
    }

    /** Promises 13 and 14: "there is no such place". */
    private void wrongPlaces(Twins twins, int last) {
        for (int place : new int[] {-1, -2, MIN, last + 1, last + 2, MAX}) {
            twins.refuse(Expect.PLACE, "ends " + place, forms -> forms.ends(place));
            twins.refuse(Expect.PLACE, "rule " + place, forms -> forms.rule(place));
        }
    }

    /** Promises 2 to 6: "there are 60 such ranges", "120 rows are told", "there are 60 that are". */
    private void fullTables(Twins twins) {
        twins.refuse(Expect.STATE, "mark 61", forms -> forms.mark(7, 7, 1));
        twins.refuse(Expect.STATE, "mark 61 over another", forms -> forms.mark(10, 29, 0));
        twins.refuse(Expect.STATE, "mark 61 as another", forms -> forms.mark(10, 19, 1));
        twins.refuse(Expect.STATE, "mark 61 of all", forms -> forms.mark(0, 1114111, 254));
        twins.refuse(Expect.STATE, "property 61", forms -> forms.property(7, 7, 4));
        twins.refuse(Expect.STATE, "property 61 over another", forms -> forms.property(10, 30, 0));
        twins.refuse(Expect.STATE, "property 61 as another", forms -> forms.property(30, 30, 14));
        twins.refuse(Expect.STATE, "property 61 of all", forms -> forms.property(0, 1114111, 14));
        twins.refuse(Expect.STATE, "part 121", forms -> forms.part(7, 8, 9));
        twins.refuse(Expect.STATE, "part 121 of one", forms -> forms.part(7, 8, -1));
        twins.refuse(Expect.STATE, "part 121 of the edges", forms -> forms.part(0, 1114111, 1114111));
        twins.refuse(Expect.STATE, "loose 121", forms -> forms.loose(7, 8, 9, 8));
        twins.refuse(Expect.STATE, "loose 121 of one", forms -> forms.loose(7, 8, -1, -1));
        twins.refuse(Expect.STATE, "exclude 61", forms -> forms.exclude(100, true));
        twins.refuse(Expect.STATE, "exclude 61, a syllable", forms -> forms.exclude(44032, true));
    }

    /** Promise 7: "there would be more than 1000". */
    private void fullText(Twins full) {
        full.refuse(Expect.STATE, "add 1 to 1000", forms -> forms.add(7, -1, -1, -1, -1));
        full.refuse(Expect.STATE, "add 5 to 1000", forms -> forms.add(7, 7, 7, 7, 7));
        for (int length = 996; length <= 999; length++) {
            int n = length;
            Twins twins = new Twins(expect, n + " characters", forms -> {
                use(forms);
                lengthen(forms, n);
            });
            twins.refuse(Expect.STATE, "add 5", forms -> forms.add(7, 7, 7, 7, 7));
            int over = 1001 - n;
            twins.refuse(Expect.STATE, "add one too many", forms -> forms.add(7, at(1, over), at(2, over), at(3, over), at(4, over)));
            twins.refuse(Expect.ARGUMENT, "add too many, one wrong", forms -> forms.add(7, 7, 7, 7, -2));
        }
    }

    /** Character 7 at a place of an add of so many, NONE behind them. */
    private static int at(int place, int count) {
        return place < count ? 7 : -1;
    }

    /** Makes a text of so many characters (800 or more) in few calls: each 300 gives 8. */
    private static void lengthen(NormalForms forms, int length) {
        for (int i = 0; i < 3; i++) {
            forms.part(300 + i, 301 + i, 301 + i);
        }
        forms.clear();
        int many = length / 8;
        for (int i = 0; i < many; i++) {
            forms.add(300, -1, -1, -1, -1);
        }
        forms.form(0);
        forms.keep();
        for (int i = many * 8; i < length; i++) {
            forms.add(9, -1, -1, -1, -1);
        }
    }

    /** Promises 9 and 12: "taken apart it would have more than 2000 (the form of before stays)". */
    private void tooLongForms() {
        Twins asked = new Twins(expect, "2001 in each form", forms -> {
            use(forms);
            tooLong(forms);
        });
        Twins notAsked = new Twins(expect, "2001 in each form, none asked for", RefusedCallsTest::tooLong);
        for (Twins twins : new Twins[] {asked, notAsked}) {
            for (int form = 0; form <= 3; form++) {
                int wanted = form;
                twins.refuse(Expect.STATE, "form " + form, forms -> forms.form(wanted));
                twins.refuse(Expect.STATE, "isIn " + form, forms -> forms.isIn(wanted));
            }
            wrongForms(twins);
        }
    }

    /** 250 characters of 8 and one of 1, all of which would be put together again. */
    private static void tooLong(NormalForms forms) {
        for (int i = 0; i < 3; i++) {
            forms.part(300 + i, 301 + i, 301 + i);
        }
        forms.clear();
        for (int i = 0; i < 50; i++) {
            forms.add(300, 300, 300, 300, 300);
        }
        forms.add(7, -1, -1, -1, -1);
    }

    /** Promise 11: "that are more than 1000". */
    private void tooLongKeeps() {
        for (int more = 1; more <= 1000; more += 999) {
            int over = more;
            Twins twins = new Twins(expect, "a form of " + (1000 + more), forms -> {
                use(forms);
                tooLong(forms);
                forms.clear();
                for (int i = 0; i < (1000 + over) / 8; i++) {
                    forms.add(300, -1, -1, -1, -1);
                }
                for (int i = 0; i < (1000 + over) % 8; i++) {
                    forms.add(8, -1, -1, -1, -1);
                }
                forms.form(0);
                forms.clear();
                forms.add(30, 10, -1, -1, -1);
            });
            twins.refuse(Expect.STATE, "keep", NormalForms::keep);
        }
    }
}
