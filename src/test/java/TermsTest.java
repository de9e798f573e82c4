/** The sentences of 'Terms' that name a boundary case: each has a method of its own, which quotes it. */
public final class TermsTest {
    private static final int LAST = 1114111;

    private final Expect expect = new Expect();

    public static void main(String[] args) {
        TermsTest test = new TermsTest();
        test.firstAndLastCharacter();
        test.firstAndLastClass();
        test.classToldLast();
        test.noClass();
        test.longestAndShortestRows();
        test.notBothRows();
        test.firstAndLastSyllable();
        test.edgesOfLeadVowelAndTail();
        test.rowsBesideSyllables();
        test.withoutARowItStays();
        test.eachInTurnInItsPlace();
        test.orderOfNeighbours();
        test.againAndAgain();
        test.fromTheSecondOn();
        test.noneBefore();
        test.noneBetween();
        test.classBeforeIsLess();
        test.ofThoseLeft();
        test.compositeOfClassZero();
        test.compositeMayBeASyllable();
        test.compositeIsNotExcluded();
        test.compositeHasAPartRowOfTwo();
        test.fourForms();
        test.firstAndLastKind();
        test.kindToldLast();
        test.expect.end();
    }

    private static NormalForms of(int... text) {
        NormalForms forms = new NormalForms();
        Expect.addAll(forms, text);
        return forms;
    }

    private void form(String due, NormalForms forms, int form, String what) {
        expect.same(due, what + ", form " + form, Expect.formOf(forms, form));
    }

    /** "CHARACTERS are numbers 0 .. 1114111." As each argument; what lies outside is in RefusedCallsTest. */
    private void firstAndLastCharacter() {
        NormalForms forms = of(0, LAST, 1, LAST - 1);
        expect.does("mark of the first", () -> forms.mark(0, 0, 9));
        expect.does("mark of the last", () -> forms.mark(LAST, LAST, 8));
        form(LAST + " 0 1 " + (LAST - 1), forms, 0, "the first and the last have a class");
        expect.does("mark of all", () -> forms.mark(0, LAST, 7));
        form("0 " + LAST + " 1 " + (LAST - 1), forms, 0, "all have one class");
        expect.does("mark of all again", () -> forms.mark(0, LAST, 0));
        expect.does("property of the first", () -> forms.property(0, 0, 4));
        expect.does("property of the last", () -> forms.property(LAST, LAST, 4));
        expect.answers(9, "the last has a kind", () -> forms.rule(1));
        expect.answers(999, "the second has none", () -> forms.rule(2));
        expect.answers(999, "the last but one has none", () -> forms.rule(3));
        expect.does("property of all", () -> forms.property(0, LAST, 8));
        expect.answers(91, "all have a kind", () -> forms.rule(2));
        expect.does("part of the first", () -> forms.part(0, LAST, LAST));
        expect.does("part of the last", () -> forms.part(LAST, 7, -1));
        form("7 7 7 1 " + (LAST - 1), forms, 0, "the first and the last have a row");
        NormalForms loose = of(0, LAST, 8, 9);
        expect.does("loose of the first", () -> loose.loose(0, LAST, LAST, LAST));
        expect.does("loose of the last", () -> loose.loose(LAST, 7, -1, -1));
        form("7 7 7 7 8 9", loose, 2, "the first and the last have a loose row");
        NormalForms zero = of(8, 9);
        expect.does("part with the first", () -> zero.part(8, 0, 0));
        expect.does("loose with the first", () -> zero.loose(9, 0, 0, 0));
        form("0 0 0 0 0", zero, 2, "the first as part");
        expect.does("exclude the first", () -> zero.exclude(0, true));
        expect.does("exclude the last", () -> zero.exclude(LAST, true));
        expect.does("exclude the first no more", () -> zero.exclude(0, false));
        expect.does("exclude the last no more", () -> zero.exclude(LAST, false));
        expect.answers(7, "add the first five times", () -> zero.add(0, 0, 0, 0, 0));
        expect.answers(12, "add the last five times", () -> zero.add(LAST, LAST, LAST, LAST, LAST));
    }

    /** "Each has a MARK CLASS 0 .. 254." */
    private void firstAndLastClass() {
        NormalForms forms = of(1, 4, 3, 2, 4, 5, 4);
        expect.does("class 0", () -> forms.mark(5, 5, 0));
        expect.does("class 1", () -> forms.mark(2, 2, 1));
        expect.does("class 253", () -> forms.mark(3, 3, 253));
        expect.does("class 254", () -> forms.mark(4, 4, 254));
        form("1 2 3 4 4 5 4", forms, 0, "0, 1, 253 and 254");
    }

    /** "Told by ranges, the one told last counting." */
    private void classToldLast() {
        NormalForms forms = of(60, 5, 4);
        forms.mark(4, 4, 2);
        forms.mark(5, 5, 3);
        form("60 4 5", forms, 0, "2 is less than 3");
        forms.mark(5, 5, 1);
        form("60 5 4", forms, 0, "the same range told again");
        forms.mark(0, 9, 7);
        form("60 5 4", forms, 0, "a wider one told later");
        forms.mark(4, 4, 6);
        form("60 4 5", forms, 0, "a narrower one told later");
        forms.mark(4, 5, 0);
        form("60 5 4", forms, 0, "0 told later");
    }

    /** "0 if there is none": on both sides of a range. */
    private void noClass() {
        NormalForms forms = new NormalForms();
        forms.mark(11, 13, 2);
        forms.mark(20, 20, 1);
        for (int at = 10; at <= 14; at++) {
            forms.clear();
            forms.add(1, at, 20, -1, -1);
            boolean isIn = at >= 11 && at <= 13;
            form(isIn ? "1 20 " + at : "1 " + at + " 20", forms, 0, "the range 11 .. 13 and " + at);
        }
    }

    /** "A PART ROW: two characters, or one alone; or a LOOSE one, of one to three." */
    private void longestAndShortestRows() {
        NormalForms forms = of(100, 101, 102, 103, 104);
        expect.does("part of one", () -> forms.part(100, 1, -1));
        expect.does("part of two", () -> forms.part(101, 1, 2));
        expect.does("loose of one", () -> forms.loose(102, 1, -1, -1));
        expect.does("loose of two", () -> forms.loose(103, 1, 2, -1));
        expect.does("loose of three", () -> forms.loose(104, 1, 2, 3));
        form("1 1 2 102 103 104", forms, 0, "part rows");
        form("1 1 2 1 1 2 1 2 3", forms, 2, "all rows");
    }

    /** "Not both": nor the same twice. */
    private void notBothRows() {
        NormalForms forms = of(100, 200);
        forms.part(100, 1, 2);
        forms.loose(200, 3, 4, 5);
        expect.refuses(Expect.ARGUMENT, "loose of one with a part row", () -> forms.loose(100, 7, 8, 9));
        expect.refuses(Expect.ARGUMENT, "part of one with a loose row", () -> forms.part(200, 7, 8));
        expect.refuses(Expect.ARGUMENT, "part twice", () -> forms.part(100, 7, 8));
        expect.refuses(Expect.ARGUMENT, "loose twice", () -> forms.loose(200, 7, 8, 9));
        form("1 2 200", forms, 0, "the rows of before");
        form("1 2 3 4 5", forms, 2, "the rows of before");
    }

    /** "SYLLABLES are 44032 .. 55203." */
    private void firstAndLastSyllable() {
        form("44031", of(44031), 0, "before the first");
        form("4352 4449", of(44032), 0, "the first");
        form("4370 4469 4546", of(55203), 0, "the last");
        form("55204", of(55204), 0, "behind the last");
        form("44032", of(4352, 4449), 1, "the first");
        form("55203", of(4370, 4469, 4546), 1, "the last");
    }

    /** "With l 0 .. 18, v 0 .. 20, t 0 .. 27": what is one less or one more is no part of a syllable. */
    private void edgesOfLeadVowelAndTail() {
        form("4351 4449", of(4351, 4449), 1, "l -1");
        form("44032", of(4352, 4449), 1, "l 0");
        form("54616", of(4370, 4449), 1, "l 18");
        form("4371 4449", of(4371, 4449), 1, "l 19");
        form("4352 4448", of(4352, 4448), 1, "v -1");
        form("44592", of(4352, 4469), 1, "v 20");
        form("4352 4470", of(4352, 4470), 1, "v 21");
        form("44032 4518", of(44032, 4518), 1, "t -1");
        form("44032 4519", of(44032, 4519), 1, "t 0, which is no part");
        form("44033", of(44032, 4520), 1, "t 1");
        form("44059", of(44032, 4546), 1, "t 27");
        form("44032 4547", of(44032, 4547), 1, "t 28");
        form("44033 4520", of(44033, 4520), 1, "t behind t 1");
        form("44059 4520", of(44059, 4520), 1, "t behind t 27");
        form("44031 4520", of(44031, 4520), 1, "t behind none");
        form("55204 4520", of(55204, 4520), 1, "t behind none");
        form("44060 4449", of(44060, 4449), 1, "v behind a syllable");
        form("4352 4520", of(4352, 4520), 1, "t behind l");
        form("4449 4352", of(4449, 4352), 1, "l behind v");
    }

    /** "Rows of them cannot be told": of those on both sides they can. */
    private void rowsBesideSyllables() {
        NormalForms forms = of(44031, 44032, 55203, 55204);
        expect.refuses(Expect.ARGUMENT, "part of the first", () -> forms.part(44032, 1, 2));
        expect.refuses(Expect.ARGUMENT, "part of the last", () -> forms.part(55203, 1, 2));
        expect.refuses(Expect.ARGUMENT, "loose of the first", () -> forms.loose(44032, 1, 2, 3));
        expect.refuses(Expect.ARGUMENT, "loose of the last", () -> forms.loose(55203, 1, 2, 3));
        expect.does("part before the first", () -> forms.part(44031, 1, 2));
        expect.does("loose behind the last", () -> forms.loose(55204, 3, 4, 5));
        form("1 2 4352 4449 4370 4469 4546 3 4 5", forms, 2, "beside syllables");
        NormalForms turned = of(44031, 55204);
        expect.does("loose before the first", () -> turned.loose(44031, 1, 2, 3));
        expect.does("part behind the last", () -> turned.part(55204, 4, 5));
        form("1 2 3 4 5", turned, 2, "beside syllables");
    }

    /** "Otherwise it stays": without a row, or with a loose one in a form that is not loose. */
    private void withoutARowItStays() {
        NormalForms forms = of(100, 101, 7);
        forms.loose(100, 1, 2, 3);
        forms.part(101, 100, 7);
        form("100 100 7 7", forms, 0, "the loose row waits");
        form("1 2 3 1 2 3 7 7", forms, 2, "the loose row is taken");
        form("", of(), 0, "no text");
        form("", of(), 3, "no text");
    }

    /** "Each character of that, in turn, is taken apart in its place": rows in rows, and syllables in them. */
    private void eachInTurnInItsPlace() {
        NormalForms forms = of(104, 9, 104);
        forms.part(100, 1, 2);
        forms.part(101, 100, 3);
        forms.part(102, 4, 101);
        forms.loose(103, 102, 44033, 100);
        forms.part(104, 103, 102);
        forms.part(4352, 5, -1);
        String once = "4 1 2 3 5 4449 4520 1 2 4 1 2 3";
        form(once + " 9 " + once, forms, 2, "rows in rows");
        form("103 4 1 2 3 9 103 4 1 2 3", forms, 0, "up to a loose row");
    }

    /** "Of neighbours of which the second has a class above 0, that is less than that of the first." */
    private void orderOfNeighbours() {
        int[][] classes = {{0, 0, 0}, {0, 1, 0}, {1, 0, 0}, {1, 1, 0}, {1, 2, 0}, {2, 1, 1}, {254, 253, 1}, {254, 0, 0}};
        for (int[] two : classes) {
            NormalForms forms = of(5, 6);
            forms.mark(5, 5, two[0]);
            forms.mark(6, 6, two[1]);
            form(two[2] == 1 ? "6 5" : "5 6", forms, 0, "classes " + two[0] + " and " + two[1]);
        }
    }

    /** "The first such two are changed for one another, again and again, until there are none." */
    private void againAndAgain() {
        NormalForms forms = new NormalForms();
        StringBuilder due = new StringBuilder("9");
        for (int i = 0; i < 50; i++) {
            forms.mark(1000 + i, 1000 + i, i + 1);
            due.append(" ").append(1000 + i);
        }
        forms.add(9, -1, -1, -1, -1);
        for (int i = 49; i >= 0; i--) {
            forms.add(1000 + i, -1, -1, -1, -1);
        }
        form(due.toString(), forms, 0, "all turned round");
        form(due.toString(), forms, 1, "all turned round");
        NormalForms same = of(9, 21, 11, 22, 12, 10, 9, 11, 10);
        same.mark(10, 19, 1);
        same.mark(20, 29, 2);
        form("9 11 12 10 21 22 9 11 10", same, 0, "those of one class keep their turn");
    }

    /** "From the second character on": the first, or no character at all, is no C. */
    private void fromTheSecondOn() {
        NormalForms forms = new NormalForms();
        forms.part(100, 1, 2);
        form("", forms, 1, "no character");
        forms.add(2, -1, -1, -1, -1);
        form("2", forms, 1, "one character");
        forms.clear();
        forms.add(1, 2, -1, -1, -1);
        form("100", forms, 1, "the second");
        forms.clear();
        forms.add(2, 1, 2, -1, -1);
        form("2 100", forms, 1, "the third");
    }

    /** "The latest before it whose class is 0 is S, if there is one." */
    private void noneBefore() {
        NormalForms forms = of(10, 20);
        forms.mark(10, 10, 1);
        forms.mark(20, 20, 2);
        forms.part(100, 10, 20);
        forms.part(101, 1, 20);
        form("10 20", forms, 1, "none of class 0 before");
        forms.clear();
        forms.add(10, 1, 20, -1, -1);
        form("10 101", forms, 1, "one of class 0 behind a mark");
        forms.clear();
        forms.add(1, 3, 20, -1, -1);
        form("1 3 20", forms, 1, "the latest, not the one before it");
        forms.clear();
        forms.add(1, 1, 20, -1, -1);
        form("1 101", forms, 1, "the latest of two alike");
    }

    /** "If there is none between S and C": whatever the class of C. */
    private void noneBetween() {
        for (int markClass : new int[] {0, 1, 254}) {
            NormalForms forms = of(1, 2);
            forms.part(100, 1, 2);
            forms.mark(2, 2, markClass);
            form("100", forms, 1, "C of class " + markClass);
        }
    }

    /** "Or the class of the one directly before C is less than that of C and not 0." */
    private void classBeforeIsLess() {
        int[][] classes = {{1, 2, 1}, {253, 254, 1}, {1, 254, 1}, {1, 1, 0}, {254, 254, 0}, {1, 0, 0}, {254, 0, 0}, {0, 1, 0}};
        for (int[] two : classes) {
            NormalForms forms = of(1, 5, 6);
            forms.part(100, 1, 6);
            forms.mark(5, 5, two[0]);
            forms.mark(6, 6, two[1]);
            form(two[2] == 1 ? "100 5" : "1 5 6", forms, 1, "classes " + two[0] + " before " + two[1]);
        }
        NormalForms forms = of(1, 5, 6, 7);
        forms.mark(5, 5, 1);
        forms.mark(6, 6, 2);
        forms.mark(7, 7, 2);
        forms.part(100, 1, 7);
        form("1 5 6 7", forms, 1, "only the one directly before C counts");
    }

    /** "Of those left": what is gone is neither S nor between, and a composite is S in its turn. */
    private void ofThoseLeft() {
        NormalForms forms = of(1, 5, 6);
        forms.mark(5, 6, 1);
        forms.part(100, 1, 5);
        forms.part(101, 100, 6);
        form("101", forms, 1, "one of the same class is gone");
        forms.exclude(101, true);
        forms.part(102, 100, 7);
        forms.clear();
        forms.add(1, 5, 7, -1, -1);
        form("102", forms, 1, "the composite is S");
        forms.clear();
        forms.add(1, 5, 6, 7, -1);
        form("100 6 7", forms, 1, "one that is left is between");
        forms.part(103, 2, 3);
        forms.part(104, 3, 4);
        forms.clear();
        forms.add(2, 3, 4, -1, -1);
        form("103 4", forms, 1, "one that is gone is no S");
    }

    /** "A character of class 0." */
    private void compositeOfClassZero() {
        NormalForms forms = of(1, 2);
        forms.part(100, 1, 2);
        forms.mark(100, 100, 1);
        form("1 2", forms, 1, "a composite of class 1");
        forms.mark(100, 100, 254);
        form("1 2", forms, 1, "a composite of class 254");
        forms.mark(100, 100, 0);
        form("100", forms, 1, "a composite of class 0");
    }

    /** "(Maybe a syllable)": of class 0, not excluded, of parts that are not taken apart further. */
    private void compositeMayBeASyllable() {
        NormalForms forms = of(4352, 4449, 4520);
        form("44033", forms, 1, "a syllable");
        forms.mark(44033, 44033, 1);
        form("44032 4520", forms, 1, "a syllable of class 1");
        forms.mark(44033, 44033, 0);
        forms.exclude(44032, true);
        form("4352 4449 4520", forms, 1, "an excluded syllable");
        forms.clear();
        forms.add(44033, -1, -1, -1, -1);
        form("4352 4449 4520", forms, 1, "a syllable whose first part is excluded");
        forms.exclude(44032, false);
        form("44033", forms, 1, "a syllable");
        forms.part(4449, 7, -1);
        form("4352 7 4520", forms, 1, "a vowel with a row");
    }

    /** "That is not EXCLUDED." */
    private void compositeIsNotExcluded() {
        NormalForms forms = of(1, 2, 100);
        forms.part(100, 1, 2);
        forms.exclude(100, true);
        form("1 2 1 2", forms, 1, "an excluded composite");
        form("1 2 1 2", forms, 3, "an excluded composite");
        forms.exclude(100, false);
        form("100 100", forms, 1, "no more excluded");
    }

    /** "With the PART ROW S, C": not a row of one alone, not a LOOSE one, not C, S. */
    private void compositeHasAPartRowOfTwo() {
        NormalForms forms = of(1, 2, 9, 3, 4, 9, 6, 5);
        forms.part(100, 1, -1);
        forms.loose(101, 3, 4, -1);
        forms.part(102, 5, 6);
        for (int form = 0; form <= 3; form++) {
            form("1 2 9 3 4 9 6 5", forms, form, "no part row of these two");
        }
        NormalForms zero = of(0, 0, 1, 1114111, 1114111);
        zero.part(100, 0, 0);
        zero.part(101, 1114111, 1114111);
        form("100 1 101", zero, 1, "of the first and the last character");
    }

    /** "FORMS: 0: taken apart and put in order. 1: that, then put together. 2 and 3: the same with LOOSE rows." */
    private void fourForms() {
        NormalForms forms = of(200, 100, 20, 10);
        forms.mark(10, 10, 1);
        forms.mark(20, 20, 2);
        forms.part(100, 1, 10);
        forms.loose(200, 100, 20, 10);
        form("200 1 10 10 20", forms, 0, "a text");
        form("200 100 10 20", forms, 1, "a text");
        form("1 10 10 20 1 10 10 20", forms, 2, "a text");
        form("100 10 20 100 10 20", forms, 3, "a text");
    }

    /** "KINDS: other 0 .. picture 14." */
    private void firstAndLastKind() {
        NormalForms forms = of(1, 2, 1);
        forms.property(2, 2, 5);
        expect.does("kind 14", () -> forms.property(1, 1, 14));
        expect.answers(11, "a picture", () -> forms.rule(2));
        expect.does("kind 0", () -> forms.property(1, 1, 0));
        expect.answers(999, "no picture", () -> forms.rule(2));
    }

    /** "Told by ranges (the last one counting; 0 if there is none)." */
    private void kindToldLast() {
        NormalForms forms = of(1, 10, 11, 12, 13, 14);
        forms.property(11, 13, 4);
        String[] due = {"1", "999", "9", "9", "9", "999", "2"};
        for (int place = 0; place < due.length; place++) {
            int asked = place;
            expect.answers(due[place], "the range 11 .. 13 at " + place, () -> forms.rule(asked));
        }
        forms.property(12, 12, 8);
        expect.answers(91, "a narrower one told later", () -> forms.rule(3));
        expect.answers(9, "its neighbour", () -> forms.rule(4));
        forms.property(11, 13, 0);
        expect.answers(999, "0 told later", () -> forms.rule(3));
        forms.property(0, 1114111, 4);
        expect.answers(9, "a wider one told later", () -> forms.rule(1));
    }
}
