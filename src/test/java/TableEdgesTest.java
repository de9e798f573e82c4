/** Promises 1 to 6: what a new object has, and the edges of its tables; each sentence by itself. */
public final class TableEdgesTest {
    private final Expect expect = new Expect();

    public static void main(String[] args) {
        TableEdgesTest test = new TableEdgesTest();
        test.newObject();
        test.rangeOfOne();
        test.sixtyMarks();
        test.refusedMarksAreNotCounted();
        test.sixtyKinds();
        test.refusedKindsAreNotCounted();
        test.partOfOne();
        test.sameRow();
        test.sameRowOfASyllable();
        test.partGivesItself();
        test.partNearlyGivesItself();
        test.hundredTwentyParts();
        test.looseLengths();
        test.looseGivesItself();
        test.hundredTwentyLooses();
        test.rowsTogether();
        test.refusedRowsAreNotCounted();
        test.excludedOrNot();
        test.sixtyExcluded();
        test.refusedExcludesAreNotCounted();
        test.expect.end();
    }

    private static NormalForms of(int... text) {
        NormalForms forms = new NormalForms();
        Expect.addAll(forms, text);
        return forms;
    }

    private void form(String due, NormalForms forms, int form, String what) {
        expect.same(due, what + ", form " + form, Expect.formOf(forms, form));
    }

    /** Promise 1: "No text; all characters of class and kind 0, without rows." */
    private void newObject() {
        NormalForms forms = new NormalForms();
        expect.answers(0, "no text", () -> forms.add(-1, -1, -1, -1, -1));
        expect.answers(0, "no text", forms::readers);
        expect.answers(false, "no text", () -> forms.ends(0));
        expect.answers(-1, "no form", () -> forms.at(0));
        expect.answers(0, "nothing to keep", forms::keep);
        int[] some = {0, 10, 13, 192, 768, 769, 807, 4352, 8205, 64257, 127462, 128512, 1114111};
        Expect.addAll(forms, some);
        String due = java.util.Arrays.toString(some).replaceAll("[\\[\\],]", "");
        for (int form = 0; form <= 3; form++) {
            int asked = form;
            expect.answers(true, "in each form", () -> forms.isIn(asked));
            form(due, forms, form, "no class, no row");
        }
        expect.answers(some.length, "no kind", forms::readers);
        for (int place = 1; place < some.length; place++) {
            int asked = place;
            expect.answers(999, "no kind", () -> forms.rule(asked));
        }
        forms.clear();
        forms.add(1, 2, -1, -1, -1);
        forms.part(100, 1, 2);
        form("100", forms, 1, "none is excluded");
    }

    /** Promises 2 and 3: "first is above last": the same is not above. */
    private void rangeOfOne() {
        NormalForms forms = of(1, 7, 6);
        expect.does("mark of one", () -> forms.mark(7, 7, 2));
        expect.does("mark of two", () -> forms.mark(5, 6, 1));
        expect.refuses(Expect.ARGUMENT, "mark turned round", () -> forms.mark(7, 6, 9));
        form("1 6 7", forms, 0, "classes");
        expect.does("property of one", () -> forms.property(7, 7, 4));
        expect.does("property of two", () -> forms.property(5, 6, 8));
        expect.refuses(Expect.ARGUMENT, "property turned round", () -> forms.property(7, 6, 0));
        expect.answers(9, "the kind of one", () -> forms.rule(1));
        expect.answers(91, "the kind of two", () -> forms.rule(2));
    }

    /** Promise 2: "there are 60 such ranges": the 60th counts, the 61st does not, and the first still does. */
    private void sixtyMarks() {
        NormalForms forms = of(9, 159, 100, 160);
        for (int i = 0; i < 60; i++) {
            int at = i;
            expect.does("mark " + (i + 1), () -> forms.mark(100 + at, 100 + at, 60 - at));
        }
        expect.refuses(Expect.STATE, "mark 61", () -> forms.mark(160, 160, 254));
        expect.refuses(Expect.STATE, "mark 61 over the first", () -> forms.mark(100, 100, 0));
        form("9 159 100 160", forms, 0, "the 60th is less than the first");
        forms.clear();
        Expect.addAll(forms, 9, 100, 159, 160, 158);
        form("9 159 100 160 158", forms, 0, "the 61st has no class");
        expect.refuses(Expect.ARGUMENT, "a wrong 61st", () -> forms.mark(160, 160, 255));
        expect.does("kinds have ranges of their own", () -> forms.property(9, 9, 7));
    }

    /** A refused mark is no range: with 59 told, the 60th has room. */
    private void refusedMarksAreNotCounted() {
        NormalForms forms = of(1, 3, 2);
        for (int i = 0; i < 59; i++) {
            forms.mark(3, 3, 9);
            expect.refuses(Expect.ARGUMENT, "a wrong mark", () -> forms.mark(2, 1, 8));
        }
        expect.does("mark 60", () -> forms.mark(2, 2, 8));
        form("1 2 3", forms, 0, "mark 60");
        expect.refuses(Expect.STATE, "mark 61", () -> forms.mark(2, 2, 10));
        form("1 2 3", forms, 0, "mark 61");
    }

    /** Promise 3: "there are 60 such ranges". */
    private void sixtyKinds() {
        NormalForms forms = of(9, 100, 159, 160);
        for (int i = 0; i < 60; i++) {
            int at = i;
            expect.does("property " + (i + 1), () -> forms.property(100 + at, 100 + at, at == 59 ? 8 : 4));
        }
        expect.refuses(Expect.STATE, "property 61", () -> forms.property(160, 160, 4));
        expect.refuses(Expect.STATE, "property 61 over the first", () -> forms.property(100, 100, 0));
        expect.answers(9, "the first", () -> forms.rule(1));
        expect.answers(91, "the 60th", () -> forms.rule(2));
        expect.answers(999, "the 61st", () -> forms.rule(3));
        expect.refuses(Expect.ARGUMENT, "a wrong 61st", () -> forms.property(160, 160, 15));
        expect.does("marks have ranges of their own", () -> forms.mark(9, 9, 7));
    }

    /** A refused property is no range. */
    private void refusedKindsAreNotCounted() {
        NormalForms forms = of(1, 2);
        for (int i = 0; i < 59; i++) {
            forms.property(3, 3, 9);
            expect.refuses(Expect.ARGUMENT, "a wrong property", () -> forms.property(2, 2, 15));
        }
        expect.does("property 60", () -> forms.property(2, 2, 4));
        expect.answers(9, "property 60", () -> forms.rule(1));
        expect.refuses(Expect.STATE, "property 61", () -> forms.property(2, 2, 8));
        expect.answers(9, "property 61", () -> forms.rule(1));
    }

    /** Promise 4: "a, then b (NONE for none)"; "with b": rows of one alone may be alike. */
    private void partOfOne() {
        NormalForms forms = of(100, 101, 102);
        expect.does("one alone", () -> forms.part(100, 1, -1));
        expect.does("the same one alone", () -> forms.part(101, 1, -1));
        expect.does("the same one, and another", () -> forms.part(102, 1, 1));
        form("1 1 1 1", forms, 0, "rows of one");
        form("102 102", forms, 1, "rows of one are not put together");
    }

    /** Promise 4: "with b, some character has just that row already". */
    private void sameRow() {
        NormalForms forms = of(101);
        forms.part(100, 1, 2);
        forms.exclude(100, true);
        expect.refuses(Expect.ARGUMENT, "just that row", () -> forms.part(101, 1, 2));
        form("101", forms, 0, "the refused one has no row");
        expect.does("the other way round", () -> forms.part(101, 2, 1));
        expect.does("another b", () -> forms.part(102, 1, 3));
        expect.does("another a", () -> forms.part(103, 3, 2));
        expect.does("what gives the same, but is not the same row", () -> forms.part(104, 100, -1));
        expect.does("a loose row may be the same", () -> forms.loose(105, 1, 2, -1));
        expect.does("a loose row may be another loose row", () -> forms.loose(106, 1, 2, -1));
        expect.does("a loose row is no part row", () -> forms.loose(107, 8, 9, -1));
        expect.does("so a part row may be the same", () -> forms.part(108, 8, 9));
    }

    /** Promise 4: "(or syllable)". */
    private void sameRowOfASyllable() {
        int[][] rows = {{4352, 4449}, {4370, 4469}, {4352, 4469}, {44032, 4520}, {44032, 4546}, {55176, 4520}, {55176, 4546}};
        int[][] beside = {
            {4351, 4449}, {4371, 4449}, {4352, 4448}, {4352, 4470}, {44032, 4519}, {44032, 4547}, {44033, 4520},
            {55203, 4520}, {55204, 4520}, {44031, 4520}, {4449, 4352}, {4352, 4520},
        };
        NormalForms forms = new NormalForms();
        for (int[] row : rows) {
            expect.refuses(Expect.ARGUMENT, "a row of a syllable, " + row[0], () -> forms.part(100, row[0], row[1]));
        }
        for (int i = 0; i < beside.length; i++) {
            int at = i;
            expect.does("no row of a syllable " + i, () -> forms.part(100 + at, beside[at][0], beside[at][1]));
        }
        forms.add(100, 111, 4352, 4449, -1);
        form("4351 4449 4352 4520 4352 4449", forms, 0, "rows beside those of syllables");
        form("100 111 44032", forms, 1, "rows beside those of syllables");
    }

    /** Promise 4: "or, taken apart, even with LOOSE rows, a or b would give the character itself". */
    private void partGivesItself() {
        NormalForms forms = new NormalForms();
        forms.part(100, 1, 2);
        forms.loose(200, 3, 100, 4);
        forms.part(101, 200, -1);
        for (int wanted : new int[] {1, 2, 3, 4}) {
            expect.refuses(Expect.ARGUMENT, wanted + " by a", () -> forms.part(wanted, 101, 9));
            expect.refuses(Expect.ARGUMENT, wanted + " by b", () -> forms.part(wanted, 9, 101));
            expect.refuses(Expect.ARGUMENT, wanted + " by a alone", () -> forms.part(wanted, 101, -1));
        }
        expect.refuses(Expect.ARGUMENT, "itself by a", () -> forms.part(9, 9, 1));
        expect.refuses(Expect.ARGUMENT, "itself by b", () -> forms.part(9, 1, 9));
        expect.refuses(Expect.ARGUMENT, "itself alone", () -> forms.part(9, 9, -1));
        expect.refuses(Expect.ARGUMENT, "the first by a", () -> forms.part(0, 0, 1));
        expect.refuses(Expect.ARGUMENT, "the last by b", () -> forms.part(1114111, 1, 1114111));
        forms.add(1, 2, 3, 4, 9);
        form("1 2 3 4 9", forms, 2, "none was told a row");
    }

    /** What gives other characters only, however many, is no circle; and one refused leaves no trace. */
    private void partNearlyGivesItself() {
        NormalForms forms = of(5);
        forms.part(100, 1, 2);
        forms.part(101, 100, 3);
        expect.does("one that gives others", () -> forms.part(5, 101, 100));
        expect.refuses(Expect.ARGUMENT, "now one would", () -> forms.part(3, 5, -1));
        expect.does("what has a row may be given twice", () -> forms.part(6, 5, 5));
        expect.does("3 may still be told", () -> forms.part(3, 7, -1));
        form("1 2 7 1 2", forms, 0, "rows in rows");
        expect.does("a syllable that gives others", () -> forms.part(4352, 44620, -1));
        expect.refuses(Expect.ARGUMENT, "through two syllables", () -> forms.part(4353, 44032, -1));
    }

    /** Promise 4: "120 rows are told". */
    private void hundredTwentyParts() {
        NormalForms forms = of(1000, 1119, 1120);
        for (int i = 0; i < 120; i++) {
            int at = i;
            expect.does("part " + (i + 1), () -> forms.part(1000 + at, 1, 2000 + at));
        }
        expect.refuses(Expect.STATE, "part 121", () -> forms.part(1120, 1, 2120));
        expect.refuses(Expect.STATE, "part 121 of one", () -> forms.part(1120, 1, -1));
        expect.refuses(Expect.STATE, "loose 121", () -> forms.loose(1120, 1, -1, -1));
        expect.refuses(Expect.ARGUMENT, "a wrong 121st", () -> forms.part(1000, 5, 6));
        form("1 2000 1 2119 1120", forms, 2, "120 part rows");
        form("1000 1119 1120", forms, 3, "120 part rows");
        expect.answers(5, "syllables need none of them", () -> forms.add(44033, 4352, -1, -1, -1));
        form("1000 1119 1120 44033 4352", forms, 1, "syllables need none of them");
    }

    /** Promise 5: "b or c being NONE if it is shorter"; "or c is not NONE though b is". */
    private void looseLengths() {
        NormalForms forms = of(100, 101, 102, 103);
        expect.refuses(Expect.ARGUMENT, "no a", () -> forms.loose(103, -1, -1, -1));
        expect.refuses(Expect.ARGUMENT, "no a, but b", () -> forms.loose(103, -1, 2, -1));
        expect.refuses(Expect.ARGUMENT, "c without b", () -> forms.loose(103, 1, -1, 3));
        expect.does("one", () -> forms.loose(100, 1, -1, -1));
        expect.does("two", () -> forms.loose(101, 1, 2, -1));
        expect.does("three", () -> forms.loose(102, 1, 2, 3));
        form("1 1 2 1 2 3 103", forms, 2, "one, two and three");
        form("100 101 102 103", forms, 0, "one, two and three");
        expect.does("the one that was refused", () -> forms.loose(103, 0, 0, 0));
        form("1 1 2 1 2 3 0 0 0", forms, 2, "one, two, three and three");
    }

    /** Promise 5: "or, taken apart, even with LOOSE rows, one would give the character itself". */
    private void looseGivesItself() {
        NormalForms forms = new NormalForms();
        forms.part(100, 1, 2);
        forms.loose(200, 3, 100, 4);
        forms.loose(101, 8, 8, 200);
        for (int wanted : new int[] {1, 2, 3, 4, 8}) {
            expect.refuses(Expect.ARGUMENT, wanted + " by a", () -> forms.loose(wanted, 101, 9, 9));
            expect.refuses(Expect.ARGUMENT, wanted + " by b", () -> forms.loose(wanted, 9, 101, 9));
            expect.refuses(Expect.ARGUMENT, wanted + " by c", () -> forms.loose(wanted, 9, 9, 101));
        }
        expect.refuses(Expect.ARGUMENT, "itself by a", () -> forms.loose(9, 9, -1, -1));
        expect.refuses(Expect.ARGUMENT, "itself by b", () -> forms.loose(9, 1, 9, -1));
        expect.refuses(Expect.ARGUMENT, "itself by c", () -> forms.loose(9, 1, 1, 9));
        expect.refuses(Expect.ARGUMENT, "l by a syllable", () -> forms.loose(4352, 44033, -1, -1));
        expect.refuses(Expect.ARGUMENT, "v by a syllable", () -> forms.loose(4449, 1, 44033, -1));
        expect.refuses(Expect.ARGUMENT, "t by a syllable", () -> forms.loose(4520, 1, 1, 44033));
        expect.does("another t", () -> forms.loose(4521, 1, 1, 44033));
        expect.does("one that gives others", () -> forms.loose(9, 101, 200, 100));
        forms.add(9, -1, -1, -1, -1);
        form("8 8 3 1 2 4 3 1 2 4 1 2", forms, 2, "rows in rows");
    }

    /** Promise 5: "120 rows are told". */
    private void hundredTwentyLooses() {
        NormalForms forms = of(1000, 1119, 1120);
        for (int i = 0; i < 120; i++) {
            int at = i;
            expect.does("loose " + (i + 1), () -> forms.loose(1000 + at, 1, 2, 2000 + at));
        }
        expect.refuses(Expect.STATE, "loose 121", () -> forms.loose(1120, 1, 2, 2120));
        expect.refuses(Expect.STATE, "part 121", () -> forms.part(1120, 1, 2120));
        expect.refuses(Expect.ARGUMENT, "a wrong 121st", () -> forms.loose(1120, 1, -1, 2120));
        form("1 2 2000 1 2 2119 1120", forms, 2, "120 loose rows");
    }

    /** Promises 4 and 5: the 120 rows are those of both kinds. */
    private void rowsTogether() {
        for (int parts : new int[] {1, 119}) {
            NormalForms forms = of(5000);
            for (int i = 0; i < 120; i++) {
                int at = i;
                if (i < parts) {
                    expect.does("part", () -> forms.part(1000 + at, 1, 2000 + at));
                } else {
                    expect.does("loose", () -> forms.loose(1000 + at, 1, 2, 3));
                }
            }
            expect.refuses(Expect.STATE, "part 121", () -> forms.part(5000, 5, 6));
            expect.refuses(Expect.STATE, "loose 121", () -> forms.loose(5000, 5, 6, 7));
            form("5000", forms, 2, "row 121");
        }
    }

    /** A refused row is not told: with 119 told, the 120th has room. */
    private void refusedRowsAreNotCounted() {
        NormalForms forms = of(5000);
        for (int i = 0; i < 119; i++) {
            forms.part(1000 + i, 1, 2000 + i);
            int at = i;
            expect.refuses(Expect.ARGUMENT, "a wrong part", () -> forms.part(5000, 1, 2000 + at));
            expect.refuses(Expect.ARGUMENT, "a wrong loose", () -> forms.loose(5000, 5000, -1, -1));
        }
        expect.does("row 120", () -> forms.part(5000, 5, 6));
        expect.refuses(Expect.STATE, "row 121", () -> forms.part(5001, 5, 7));
        form("5 6", forms, 0, "row 120");
    }

    /** Promise 6: "A character is EXCLUDED from being put together, or not": once, twice, and never told. */
    private void excludedOrNot() {
        NormalForms forms = of(1, 2);
        forms.part(100, 1, 2);
        expect.does("not, before it was", () -> forms.exclude(100, false));
        form("100", forms, 1, "not excluded");
        expect.does("excluded", () -> forms.exclude(100, true));
        expect.does("excluded again", () -> forms.exclude(100, true));
        form("1 2", forms, 1, "excluded");
        expect.does("not excluded", () -> forms.exclude(100, false));
        form("100", forms, 1, "not excluded, though told twice before");
        expect.does("not excluded again", () -> forms.exclude(100, false));
        form("100", forms, 3, "not excluded");
        expect.does("one without a row", () -> forms.exclude(7, true));
        expect.does("its row comes later", () -> forms.part(7, 2, 1));
        forms.clear();
        forms.add(2, 1, -1, -1, -1);
        form("2 1", forms, 1, "excluded before it had a row");
    }

    /** Promise 6: "there are 60 that are". */
    private void sixtyExcluded() {
        NormalForms forms = of(1, 2, 3, 4, 5);
        Expect.addAll(forms, 6);
        forms.part(100, 1, 2);
        forms.part(159, 3, 4);
        forms.part(160, 5, 6);
        for (int i = 0; i < 60; i++) {
            int at = i;
            expect.does("exclude " + (i + 1), () -> forms.exclude(100 + at, true));
        }
        expect.refuses(Expect.STATE, "exclude 61", () -> forms.exclude(160, true));
        form("1 2 3 4 160", forms, 1, "the first and the 60th are excluded, the 61st is not");
        expect.refuses(Expect.ARGUMENT, "a wrong 61st", () -> forms.exclude(1114112, true));
        expect.does("59 are", () -> forms.exclude(100, false));
        form("100 3 4 160", forms, 1, "59 are excluded");
        expect.does("60 are", () -> forms.exclude(160, true));
        form("100 3 4 5 6", forms, 1, "60 are excluded");
        expect.refuses(Expect.STATE, "61 would be", () -> forms.exclude(100, true));
        form("100 3 4 5 6", forms, 1, "61 would be excluded");
    }

    /** A refused exclude is not counted, nor one told twice. */
    private void refusedExcludesAreNotCounted() {
        NormalForms forms = of(1, 2);
        forms.part(100, 1, 2);
        for (int i = 0; i < 59; i++) {
            forms.exclude(1000 + i, true);
            forms.exclude(1000 + i, true);
            expect.refuses(Expect.ARGUMENT, "a wrong exclude", () -> forms.exclude(-1, true));
        }
        expect.does("exclude 60", () -> forms.exclude(100, true));
        form("1 2", forms, 1, "exclude 60");
        expect.refuses(Expect.STATE, "exclude 61", () -> forms.exclude(101, true));
    }
}
