/** Promises 2 and 3: mark classes and kinds, told by ranges. */
public final class RangesTest {
    private static final int[][] WRONG = {
        {5, 4, 1}, {-1, 4, 1}, {-1, -1, 1}, {4, 1114112, 1}, {1114112, 1114112, 1}, {4, 5, -1},
        {Integer.MIN_VALUE, Integer.MAX_VALUE, 1}, {4, 5, Integer.MAX_VALUE}, {4, 5, Integer.MIN_VALUE},
    };

    public static void main(String[] args) {
        Expect expect = new Expect();
        marksOrder(expect);
        lastMarkCounts(expect);
        lastKindCounts(expect);
        marksAreRefused(expect);
        kindsAreRefused(expect);
        sixtyMarks(expect);
        sixtyKinds(expect);
        expect.end();
    }

    private static void marksOrder(Expect expect) {
        NormalForms forms = new NormalForms();
        expect.does("mark to the last class", () -> forms.mark(10, 12, 254));
        expect.does("mark of one character", () -> forms.mark(20, 20, 1));
        expect.does("mark of the first character", () -> forms.mark(0, 0, 2));
        expect.does("mark of the last character", () -> forms.mark(1114111, 1114111, 3));
        Expect.addAll(forms, 9, 20, 13, 20, 10, 20, 12, 1114111, 0, 20);
        expect.same("9 20 13 20 20 20 0 1114111 10 12", "edges of ranges", Expect.formOf(forms, 0));
    }

    private static void lastMarkCounts(Expect expect) {
        NormalForms forms = new NormalForms();
        forms.mark(1, 9, 5);
        forms.mark(3, 4, 7);
        forms.mark(4, 6, 3);
        Expect.addAll(forms, 3, 9, 4, 6, 1);
        expect.same("4 6 9 1 3", "overlapping ranges", Expect.formOf(forms, 0));
        forms.mark(0, 1114111, 0);
        expect.same("3 9 4 6 1", "all back to class 0", Expect.formOf(forms, 0));
    }

    private static void lastKindCounts(Expect expect) {
        NormalForms forms = new NormalForms();
        forms.property(1, 9, 4);
        Expect.addAll(forms, 0, 1, 9, 10);
        expect.answers(9, "rule before the range's first", () -> forms.rule(1));
        expect.answers(9, "rule before the range's last", () -> forms.rule(2));
        expect.answers(999, "rule behind the range", () -> forms.rule(3));
        forms.property(9, 9, 8);
        expect.answers(9, "rule of the older range", () -> forms.rule(1));
        expect.answers(91, "rule of the newer range", () -> forms.rule(2));
        forms.property(0, 1114111, 0);
        expect.answers(999, "rule of kind 0 again", () -> forms.rule(2));
        expect.answers(4, "readers of kind 0 again", forms::readers);
    }

    private static void marksAreRefused(Expect expect) {
        NormalForms forms = new NormalForms();
        for (int[] wrong : WRONG) {
            expect.refuses(Expect.ARGUMENT, "mark " + java.util.Arrays.toString(wrong),
                () -> forms.mark(wrong[0], wrong[1], wrong[2]));
        }
        expect.refuses(Expect.ARGUMENT, "mark of class 255", () -> forms.mark(4, 5, 255));
        expect.does("mark of class 0", () -> forms.mark(4, 4, 0));
        Expect.addAll(forms, 4, 5, 4);
        expect.same("4 5 4", "nothing was told", Expect.formOf(forms, 0));
    }

    private static void kindsAreRefused(Expect expect) {
        NormalForms forms = new NormalForms();
        for (int[] wrong : WRONG) {
            expect.refuses(Expect.ARGUMENT, "property " + java.util.Arrays.toString(wrong),
                () -> forms.property(wrong[0], wrong[1], wrong[2]));
        }
        expect.refuses(Expect.ARGUMENT, "property of kind 15", () -> forms.property(4, 5, 15));
        expect.does("property of kind 14", () -> forms.property(7, 7, 14));
        expect.does("property of kind 0", () -> forms.property(7, 7, 0));
        Expect.addAll(forms, 4, 5, 4);
        expect.answers(3, "nothing was told", forms::readers);
    }

    private static void sixtyMarks(Expect expect) {
        NormalForms forms = new NormalForms();
        for (int i = 0; i < 60; i++) {
            expect.does("mark " + i, () -> forms.mark(7, 7, 9));
        }
        expect.refuses(Expect.STATE, "mark 61", () -> forms.mark(7, 7, 0));
        expect.refuses(Expect.ARGUMENT, "wrong mark 61", () -> forms.mark(8, 7, 0));
        expect.does("kinds are counted for themselves", () -> forms.property(7, 7, 4));
        forms.add(7, 7, -1, -1, -1);
        expect.answers(1, "the kind was told", forms::readers);
    }

    private static void sixtyKinds(Expect expect) {
        NormalForms forms = new NormalForms();
        for (int i = 0; i < 60; i++) {
            expect.does("property " + i, () -> forms.property(7, 7, 4));
        }
        expect.refuses(Expect.STATE, "property 61", () -> forms.property(7, 7, 0));
        expect.refuses(Expect.ARGUMENT, "wrong property 61", () -> forms.property(7, 7, 15));
        expect.does("marks are counted for themselves", () -> forms.mark(7, 7, 4));
        forms.add(6, 7, -1, -1, -1);
        expect.answers(1, "the refused kind is not told", forms::readers);
    }
}
