/** Promises 4, 5 and 6: part rows, loose rows, and what is excluded from being put together. */
public final class RowsTest {
    public static void main(String[] args) {
        Expect expect = new Expect();
        partRows(expect);
        partsAreRefused(expect);
        sameRowIsRefused(expect);
        looseRows(expect);
        loosesAreRefused(expect);
        circlesAreRefused(expect);
        syllablesInCircles(expect);
        longCirclesAreRefused(expect);
        doublingCirclesAreRefused(expect);
        rowsAreCounted(expect);
        excluding(expect);
        excludedAreCounted(expect);
        expect.end();
    }

    private static void partRows(Expect expect) {
        NormalForms forms = new NormalForms();
        expect.does("part of two", () -> forms.part(100, 1, 2));
        expect.does("part of one", () -> forms.part(101, 100, -1));
        expect.does("another part of the same one", () -> forms.part(102, 100, -1));
        expect.does("part of the edges", () -> forms.part(1114111, 0, 1114110));
        Expect.addAll(forms, 101, 1114111, 102);
        expect.same("1 2 0 1114110 1 2", "taken apart", Expect.formOf(forms, 0));
        expect.same("100 1114111 100", "put together", Expect.formOf(forms, 1));
    }

    private static void partsAreRefused(Expect expect) {
        NormalForms forms = new NormalForms();
        forms.part(100, 1, 2);
        forms.loose(200, 1, 2, 3);
        int[][] wrong = {
            {-1, 5, 6}, {1114112, 5, 6}, {44032, 5, 6}, {55203, 5, 6}, {50000, 5, -1}, {100, 5, 6}, {200, 5, 6},
            {7, -1, 6}, {7, -1, -1}, {7, 1114112, 6}, {7, 5, 1114112}, {7, 5, -2}, {7, -2, 5},
            {Integer.MIN_VALUE, 5, 6}, {7, Integer.MAX_VALUE, 6}, {7, 5, Integer.MIN_VALUE},
        };
        for (int[] row : wrong) {
            expect.refuses(Expect.ARGUMENT, "part " + java.util.Arrays.toString(row),
                () -> forms.part(row[0], row[1], row[2]));
        }
        expect.does("before the syllables", () -> forms.part(44031, 5, 6));
        expect.does("behind the syllables", () -> forms.part(55204, 6, 5));
        Expect.addAll(forms, 7, 100);
        expect.same("7 1 2", "what was refused is not told", Expect.formOf(forms, 0));
    }

    private static void sameRowIsRefused(Expect expect) {
        NormalForms forms = new NormalForms();
        forms.part(100, 1, 2);
        forms.loose(200, 3, 4, -1);
        expect.refuses(Expect.ARGUMENT, "a part row there is", () -> forms.part(101, 1, 2));
        expect.does("the same turned round", () -> forms.part(101, 2, 1));
        expect.does("the row of a loose one is no part row", () -> forms.part(102, 3, 4));
        expect.does("a loose row may be a part row there is", () -> forms.loose(103, 1, 2, -1));
        expect.refuses(Expect.ARGUMENT, "first syllable", () -> forms.part(104, 4352, 4449));
        expect.refuses(Expect.ARGUMENT, "last of l and v", () -> forms.part(104, 4370, 4469));
        expect.refuses(Expect.ARGUMENT, "l, v and the first t", () -> forms.part(104, 44032, 4520));
        expect.refuses(Expect.ARGUMENT, "l, v and the last t", () -> forms.part(104, 55176, 4546));
        expect.does("no such l", () -> forms.part(104, 4351, 4449));
        expect.does("no such l above", () -> forms.part(105, 4371, 4449));
        expect.does("no such v", () -> forms.part(106, 4352, 4448));
        expect.does("no such v above", () -> forms.part(107, 4352, 4470));
        expect.does("t = 0 has no character", () -> forms.part(108, 44032, 4519));
        expect.does("no such t", () -> forms.part(109, 44032, 4547));
        expect.does("a syllable with a t takes none more", () -> forms.part(110, 44033, 4520));
        expect.does("one alone is no row of a syllable", () -> forms.part(111, 4352, -1));
        expect.does("a loose row of a syllable's parts", () -> forms.loose(112, 4352, 4449, -1));
    }

    private static void looseRows(Expect expect) {
        NormalForms forms = new NormalForms();
        expect.does("loose of three", () -> forms.loose(100, 1, 2, 3));
        expect.does("loose of two", () -> forms.loose(101, 1, 100, -1));
        expect.does("loose of one", () -> forms.loose(102, 101, -1, -1));
        expect.does("part of a loose one", () -> forms.part(103, 102, 5));
        Expect.addAll(forms, 103, 100);
        expect.same("102 5 100", "form 0 leaves loose rows", Expect.formOf(forms, 0));
        expect.same("103 100", "form 1 leaves loose rows", Expect.formOf(forms, 1));
        expect.same("1 1 2 3 5 1 2 3", "form 2 takes loose rows", Expect.formOf(forms, 2));
        expect.same("1 1 2 3 5 1 2 3", "form 3 does not put loose rows together", Expect.formOf(forms, 3));
    }

    private static void loosesAreRefused(Expect expect) {
        NormalForms forms = new NormalForms();
        forms.part(100, 1, 2);
        forms.loose(200, 1, 2, 3);
        int[][] wrong = {
            {-1, 5, 6, 7}, {1114112, 5, 6, 7}, {44032, 5, -1, -1}, {55203, 5, -1, -1}, {100, 5, 6, 7}, {200, 5, 6, 7},
            {8, -1, 6, 7}, {8, -1, -1, -1}, {8, 5, -1, 7}, {8, 5, -2, 7}, {8, 5, 6, -2}, {8, 1114112, 6, 7},
            {8, 5, 1114112, 7}, {8, 5, 6, 1114112}, {8, 8, -1, -1}, {8, 5, 8, -1}, {8, 5, 6, 8},
            {8, 5, -1, 1114112}, {8, Integer.MIN_VALUE, 6, 7}, {8, 5, 6, Integer.MAX_VALUE},
        };
        for (int[] row : wrong) {
            expect.refuses(Expect.ARGUMENT, "loose " + java.util.Arrays.toString(row),
                () -> forms.loose(row[0], row[1], row[2], row[3]));
        }
        Expect.addAll(forms, 8, 200);
        expect.same("8 1 2 3", "what was refused is not told", Expect.formOf(forms, 2));
    }

    private static void circlesAreRefused(Expect expect) {
        NormalForms forms = new NormalForms();
        expect.refuses(Expect.ARGUMENT, "a is the character", () -> forms.part(100, 100, 1));
        expect.refuses(Expect.ARGUMENT, "b is the character", () -> forms.part(100, 1, 100));
        expect.refuses(Expect.ARGUMENT, "one alone is the character", () -> forms.part(100, 100, -1));
        forms.part(100, 101, 1);
        forms.loose(101, 1, 1, 102);
        expect.refuses(Expect.ARGUMENT, "part gives it through a loose row", () -> forms.part(102, 1, 100));
        expect.refuses(Expect.ARGUMENT, "loose gives it by b", () -> forms.loose(102, 1, 100, -1));
        expect.refuses(Expect.ARGUMENT, "loose gives it by c", () -> forms.loose(102, 1, 1, 101));
        expect.does("no circle", () -> forms.part(102, 1, 103));
        expect.refuses(Expect.ARGUMENT, "the longer circle", () -> forms.part(103, 100, -1));
    }

    private static void syllablesInCircles(Expect expect) {
        NormalForms forms = new NormalForms();
        int s = 44032 + (3 * 21 + 4) * 28 + 5;
        expect.refuses(Expect.ARGUMENT, "l of a syllable", () -> forms.part(4352 + 3, s, -1));
        expect.refuses(Expect.ARGUMENT, "v of a syllable", () -> forms.part(4449 + 4, 1, s));
        expect.refuses(Expect.ARGUMENT, "t of a syllable", () -> forms.loose(4519 + 5, 1, 1, s));
        expect.does("another l", () -> forms.part(4352 + 2, s, -1));
        expect.does("no t", () -> forms.part(4519, 44032, -1));
        forms.part(4449 + 4, 100, -1);
        expect.refuses(Expect.ARGUMENT, "through a syllable", () -> forms.part(100, 4354, 1));
        expect.refuses(Expect.ARGUMENT, "through a syllable's v", () -> forms.loose(100, s, -1, -1));
    }

    private static void longCirclesAreRefused(Expect expect) {
        NormalForms forms = new NormalForms();
        for (int i = 118; i >= 0; i--) {
            int from = 1000 + i * 7;
            expect.does("a long row of rows", () -> forms.part(from, from + 7, -1));
        }
        int last = 1000 + 119 * 7;
        expect.refuses(Expect.ARGUMENT, "a circle of 120", () -> forms.part(last, 1000, -1));
        expect.does("no circle of 120", () -> forms.part(last, 1, 2));
        forms.add(1000, -1, -1, -1, -1);
        expect.same("1 2", "120 rows deep", Expect.formOf(forms, 0));
        forms.clear();
        for (int i = 0; i < 200; i++) {
            forms.add(1000, 1000, 1000, 1000, 1000);
        }
        expect.answers(2000, "1000 characters, each 120 rows deep", () -> forms.form(0));
        expect.answers(2, "the last of them", () -> forms.at(1999));
        expect.answers(1000, "and together again", () -> forms.form(1));
        expect.answers(last, "the last of these", () -> forms.at(999));
    }

    /** Written out, these rows would give 2 to the power of 119 characters. */
    private static void doublingCirclesAreRefused(Expect expect) {
        NormalForms forms = new NormalForms();
        for (int i = 0; i < 119; i++) {
            int from = 2000 + i;
            expect.does("a doubling row", () -> forms.part(from, from + 1, from + 1));
        }
        expect.refuses(Expect.ARGUMENT, "a doubling circle", () -> forms.part(2119, 5, 2000));
        expect.does("no doubling circle", () -> forms.part(2119, 5, 5));
        forms.add(2000, -1, -1, -1, -1);
        expect.answers(Expect.STATE, "far more than 2000", () -> forms.form(0));
        forms.clear();
        forms.add(2110, -1, -1, -1, -1);
        expect.answers(1024, "1024 of them", () -> forms.form(0));
        expect.answers(512, "put together two by two, as nothing is 2119 and 5", () -> forms.form(1));
    }

    private static void rowsAreCounted(Expect expect) {
        NormalForms forms = new NormalForms();
        for (int i = 0; i < 60; i++) {
            int at = i;
            expect.does("part row " + i, () -> forms.part(1000 + at, 1, 2000 + at));
            expect.does("loose row " + i, () -> forms.loose(1256 + at, 1, 2, 3));
        }
        expect.refuses(Expect.STATE, "part row 121", () -> forms.part(5000, 5, 6));
        expect.refuses(Expect.STATE, "loose row 121", () -> forms.loose(5000, 5, 6, 7));
        expect.refuses(Expect.ARGUMENT, "wrong part row 121", () -> forms.part(1000, 5, 6));
        expect.refuses(Expect.ARGUMENT, "part row 121 there is", () -> forms.part(5000, 1, 2000));
        expect.refuses(Expect.ARGUMENT, "part row 121 in a circle", () -> forms.part(1, 1000, -1));
        expect.refuses(Expect.ARGUMENT, "wrong loose row 121", () -> forms.loose(5000, 5, -1, 7));
        expect.refuses(Expect.ARGUMENT, "loose row 121 in a circle", () -> forms.loose(1, 1256, -1, -1));
        Expect.addAll(forms, 5000, 1059, 1315, 1000);
        expect.same("5000 1 2059 1 2 3 1 2000", "the rows stand", Expect.formOf(forms, 2));
        expect.same("5000 1059 1315 1000", "the rows stand in form 1", Expect.formOf(forms, 1));
    }

    private static void excluding(Expect expect) {
        NormalForms forms = new NormalForms();
        forms.part(100, 1, 2);
        Expect.addAll(forms, 100, 4352, 4449, 4520, 44060);
        expect.does("exclude", () -> forms.exclude(100, true));
        expect.same("1 2 44033 44060", "an excluded one", Expect.formOf(forms, 1));
        expect.does("exclude a syllable", () -> forms.exclude(44033, true));
        expect.same("1 2 44032 4520 44060", "an excluded syllable", Expect.formOf(forms, 1));
        expect.does("exclude an earlier syllable", () -> forms.exclude(44032, true));
        expect.does("exclude not", () -> forms.exclude(100, false));
        expect.same("100 4352 4449 4520 44060", "no more excluded", Expect.formOf(forms, 1));
        expect.does("exclude twice", () -> forms.exclude(44032, true));
        expect.does("exclude not, once", () -> forms.exclude(44032, false));
        expect.does("exclude not, of none", () -> forms.exclude(7, false));
        expect.same("100 44032 4520 44060", "once is enough", Expect.formOf(forms, 3));
        expect.refuses(Expect.ARGUMENT, "exclude -1", () -> forms.exclude(-1, true));
        expect.refuses(Expect.ARGUMENT, "exclude -1 not", () -> forms.exclude(-1, false));
        expect.refuses(Expect.ARGUMENT, "exclude 1114112", () -> forms.exclude(1114112, true));
        expect.does("exclude the last", () -> forms.exclude(1114111, true));
        expect.does("exclude the first", () -> forms.exclude(0, true));
    }

    private static void excludedAreCounted(Expect expect) {
        NormalForms forms = new NormalForms();
        forms.part(100, 1, 2);
        for (int i = 0; i < 60; i++) {
            int at = i;
            expect.does("exclude " + i, () -> forms.exclude(1000 + at, true));
        }
        expect.refuses(Expect.STATE, "exclude 61", () -> forms.exclude(100, true));
        expect.refuses(Expect.ARGUMENT, "exclude wrong 61", () -> forms.exclude(-1, true));
        expect.does("one that is excluded", () -> forms.exclude(1030, true));
        expect.does("not one that is not", () -> forms.exclude(100, false));
        forms.add(1, 2, -1, -1, -1);
        expect.answers(1, "the refused one is put together", () -> forms.form(1));
        expect.does("one less", () -> forms.exclude(1030, false));
        expect.does("one more", () -> forms.exclude(100, true));
        expect.answers(2, "the excluded one is not put together", () -> forms.form(1));
        expect.refuses(Expect.STATE, "there are 60 again", () -> forms.exclude(1030, true));
    }
}
