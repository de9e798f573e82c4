import java.io.IOException;
import java.nio.file.Files;
import java.nio.file.Path;

/**
 * Each sentence of the promises 1 to 15 by itself: quoted as the document has it, with checks that fail
 * if it is broken. At the end the quotes are compared with the document, so that none is left out.
 */
public final class SentencesTest {
    private static final Path DOCUMENT = Path.of("../shared/DOC.md");
    private static final int LAST = 1114111;

    private final Expect expect = new Expect();
    private final String[] quoted = new String[16];
    private String promise = "";

    public static void main(String[] args) throws IOException {
        SentencesTest test = new SentencesTest();
        test.newObject();
        test.mark();
        test.markRefused();
        test.markFull();
        test.property();
        test.propertyRefused();
        test.propertyFull();
        test.part();
        test.partRefused();
        test.partFull();
        test.loose();
        test.looseRefused();
        test.looseFull();
        test.exclude();
        test.excludeRefused();
        test.add();
        test.addRefused();
        test.clear();
        test.form();
        test.formRefused();
        test.formTooLong();
        test.at();
        test.keep();
        test.keepTooLong();
        test.isIn();
        test.isInRefused();
        test.isInTooLong();
        test.ends();
        test.endsRefused();
        test.rule();
        test.ruleRefused();
        test.readers();
        test.noSentenceIsLeftOut();
        test.expect.end();
    }

    private void sentence(int number, String words) {
        promise = "promise " + number + ", ";
        quoted[number] = quoted[number] == null ? words : quoted[number] + " " + words;
    }

    private void noSentenceIsLeftOut() throws IOException {
        if (!Files.isReadable(DOCUMENT)) {
            System.out.println("there is no document to compare the quotes with");
            return;
        }
        String document = Files.readString(DOCUMENT);
        for (int number = 1; number <= 15; number++) {
            int heading = document.indexOf("## Promise " + number + ":");
            int start = document.indexOf("`: ", heading) + 3;
            int end = document.indexOf("\n", start);
            boolean isThere = heading >= 0 && start >= 3 && end >= 0;
            expect.same(isThere ? document.substring(start, end).trim() : "no such promise",
                "the quotes of promise " + number, quoted[number]);
        }
        expect.same("-1", "a promise 16", "" + document.indexOf("## Promise 16"));
    }

    private static NormalForms of(int... text) {
        NormalForms forms = new NormalForms();
        Expect.addAll(forms, text);
        return forms;
    }

    private static NormalForms full(int character) {
        NormalForms forms = new NormalForms();
        for (int i = 0; i < 200; i++) {
            forms.add(character, character, character, character, character);
        }
        return forms;
    }

    private static int length(NormalForms forms) {
        return forms.add(-1, -1, -1, -1, -1);
    }

    private void form(String due, NormalForms forms, int form, String what) {
        expect.same(due, promise + what + ", form " + form, Expect.formOf(forms, form));
    }

    private void answers(Object due, String what, java.util.concurrent.Callable<?> call) {
        expect.answers(due, promise + what, call);
    }

    private void does(String what, Runnable call) {
        expect.does(promise + what, call);
    }

    private void argument(String what, Runnable call) {
        expect.refuses(Expect.ARGUMENT, promise + what, call);
    }

    private void state(String what, Runnable call) {
        expect.refuses(Expect.STATE, promise + what, call);
    }

    private void newObject() {
        sentence(1, "No text; all characters of class and kind 0, without rows.");
        NormalForms forms = new NormalForms();
        answers(0, "no text", forms::clear);
        answers(0, "no text", forms::readers);
        answers(Expect.PLACE, "no place 1", () -> forms.rule(1));
        answers(-1, "no form of it", () -> forms.at(0));
        for (int first = 0; first <= LAST; first += 500) {
            bareCharacters(first);
        }
        for (int character : new int[] {0, 1, 65, 768, 4352, 44032, LAST}) {
            NormalForms one = of(character, 7);
            one.mark(7, 7, 1);
            one.part(100, character, 7);
            form("100", one, 1, character + " is of class 0");
        }
    }

    /** What holds of all characters is looked at for all of them; 500 syllables have a form of 1500 at most. */
    private void bareCharacters(int first) {
        NormalForms forms = new NormalForms();
        for (int i = first; i < first + 500; i += 5) {
            forms.add(orNone(i), orNone(i + 1), orNone(i + 2), orNone(i + 3), orNone(i + 4));
        }
        boolean hasSyllables = first + 499 >= 44032 && first <= 55203;
        for (int form = 0; form <= 3; form++) {
            int asked = form;
            boolean due = !hasSyllables || form % 2 == 1;
            answers(due, "characters from " + first + " in form " + form, () -> forms.isIn(asked));
        }
        answers(Math.min(500, LAST + 1 - first), "characters from " + first + " without kinds", forms::readers);
    }

    private static int orNone(int character) {
        return character <= LAST ? character : NormalForms.NONE;
    }

    private void mark() {
        sentence(2, "Characters of a range have a MARK CLASS.");
        NormalForms forms = new NormalForms();
        does("three of a class", () -> forms.mark(11, 13, 230));
        does("one of a class", () -> forms.mark(20, 20, 202));
        for (int character = 10; character <= 14; character++) {
            forms.clear();
            forms.add(1, character, 20, -1, -1);
            boolean isIn = character >= 11 && character <= 13;
            form(isIn ? "1 20 " + character : "1 " + character + " 20", forms, 0, "11 .. 13, " + character);
        }
        does("the same of a lower class", () -> forms.mark(12, 12, 1));
        forms.clear();
        forms.add(1, 11, 20, 12, 13);
        form("1 12 20 11 13", forms, 0, "three classes");
    }

    private void markRefused() {
        sentence(2, "IllegalArgument: first is above last, or there is no such class.");
        NormalForms forms = of(1, 6, 5);
        argument("first is above last", () -> forms.mark(6, 5, 230));
        argument("first is far above last", () -> forms.mark(LAST, 0, 230));
        argument("no class -1", () -> forms.mark(5, 6, -1));
        argument("no class 255", () -> forms.mark(5, 6, 255));
        argument("no such class", () -> forms.mark(5, 6, Integer.MAX_VALUE));
        argument("no such class", () -> forms.mark(5, 6, Integer.MIN_VALUE));
        argument("first is no character", () -> forms.mark(-1, 6, 230));
        argument("last is no character", () -> forms.mark(5, LAST + 1, 230));
        form("1 6 5", forms, 0, "none was told");
        does("first is last", () -> forms.mark(5, 5, 1));
        does("class 254", () -> forms.mark(6, 6, 254));
        form("1 5 6", forms, 0, "both were told");
        does("class 0", () -> forms.mark(5, 6, 0));
        form("1 6 5", forms, 0, "class 0 was told");
    }

    private void markFull() {
        sentence(2, "IllegalState: there are 60 such ranges.");
        NormalForms forms = of(1, 6, 5);
        for (int i = 0; i < 59; i++) {
            int at = i;
            does("range " + (i + 1), () -> forms.mark(1000 + at, 2000 + at, 9));
        }
        does("range 60", () -> forms.mark(6, 6, 2));
        state("range 61", () -> forms.mark(5, 5, 1));
        state("range 61, for one that has a class", () -> forms.mark(6, 6, 0));
        argument("range 61 of no class", () -> forms.mark(5, 5, 255));
        form("1 6 5", forms, 0, "range 61 was not told");
        does("ranges of a kind are others", () -> forms.property(5, 5, 4));
    }

    private void property() {
        sentence(3, "Characters of a range have a KIND.");
        NormalForms forms = of(1, 10, 11, 12, 13, 14);
        does("three of a kind", () -> forms.property(11, 13, 4));
        int[] due = {1, 999, 9, 9, 9, 999, 2};
        for (int place = 0; place < due.length; place++) {
            int asked = place;
            answers(due[place], "11 .. 13, place " + place, () -> forms.rule(asked));
        }
        answers(3, "11 .. 13", forms::readers);
        does("one of another kind", () -> forms.property(12, 12, 8));
        answers(9, "11 has the kind of before", () -> forms.rule(2));
        answers(91, "12 has another kind", () -> forms.rule(3));
        answers(9, "13 has the kind of before", () -> forms.rule(4));
    }

    private void propertyRefused() {
        sentence(3, "IllegalArgument: first is above last, or there is no such kind.");
        NormalForms forms = of(1, 5, 6);
        argument("first is above last", () -> forms.property(6, 5, 4));
        argument("first is far above last", () -> forms.property(LAST, 0, 4));
        argument("no kind -1", () -> forms.property(5, 6, -1));
        argument("no kind 15", () -> forms.property(5, 6, 15));
        argument("no such kind", () -> forms.property(5, 6, Integer.MAX_VALUE));
        argument("no such kind", () -> forms.property(5, 6, Integer.MIN_VALUE));
        argument("first is no character", () -> forms.property(-1, 6, 4));
        argument("last is no character", () -> forms.property(5, LAST + 1, 4));
        answers(3, "none was told", forms::readers);
        for (int kind = 14; kind >= 0; kind--) {
            int told = kind;
            does("kind " + kind, () -> forms.property(5, 5, told));
        }
        answers(999, "kind 0 was told", () -> forms.rule(1));
    }

    private void propertyFull() {
        sentence(3, "IllegalState: there are 60 such ranges.");
        NormalForms forms = of(1, 6, 5);
        for (int i = 0; i < 59; i++) {
            int at = i;
            does("range " + (i + 1), () -> forms.property(1000 + at, 2000 + at, 9));
        }
        does("range 60", () -> forms.property(6, 6, 4));
        state("range 61", () -> forms.property(5, 5, 4));
        state("range 61, for one that has a kind", () -> forms.property(6, 6, 0));
        argument("range 61 of no kind", () -> forms.property(5, 5, 15));
        answers(9, "range 60 was told", () -> forms.rule(1));
        answers(999, "range 61 was not told", () -> forms.rule(2));
        does("ranges of a class are others", () -> forms.mark(5, 5, 4));
    }

    private void part() {
        sentence(4, "A character's PART ROW: a, then b (NONE for none).");
        NormalForms forms = of(192, 8491, 9);
        does("a, then b", () -> forms.part(192, 65, 768));
        does("a alone", () -> forms.part(8491, 197, NormalForms.NONE));
        for (int form = 0; form <= 3; form++) {
            form(form % 2 == 0 ? "65 768 197 9" : "192 197 9", forms, form, "rows of two and of one");
        }
    }

    private void partRefused() {
        sentence(4, "IllegalArgument: it is a syllable, or has a row; a or b is no character (b may be NONE); "
            + "with b, some character (or syllable) has just that row already; or, taken apart, even with LOOSE rows, "
            + "a or b would give the character itself.");
        NormalForms forms = of(44032, 100, 200, 300);
        forms.part(100, 1, 2);
        forms.loose(200, 3, 100, -1);
        argument("a syllable", () -> forms.part(44032, 5, 6));
        argument("a syllable", () -> forms.part(50000, 5, -1));
        argument("a syllable", () -> forms.part(55203, 5, 6));
        argument("it has a part row", () -> forms.part(100, 5, 6));
        argument("it has a loose row", () -> forms.part(200, 5, 6));
        argument("it is no character", () -> forms.part(-1, 5, 6));
        argument("it is no character", () -> forms.part(LAST + 1, 5, 6));
        argument("a is no character", () -> forms.part(300, LAST + 1, 6));
        argument("a is NONE", () -> forms.part(300, -1, 6));
        argument("a and b are NONE", () -> forms.part(300, -1, -1));
        argument("b is no character", () -> forms.part(300, 5, LAST + 1));
        argument("b is neither a character nor NONE", () -> forms.part(300, 5, -2));
        argument("some character has that row", () -> forms.part(300, 1, 2));
        argument("a syllable has that row, l and v", () -> forms.part(300, 4352, 4449));
        argument("a syllable has that row, with t", () -> forms.part(300, 44032, 4520));
        argument("a gives it", () -> forms.part(2, 100, 5));
        argument("b gives it", () -> forms.part(2, 5, 100));
        argument("a gives it with a loose row", () -> forms.part(1, 200, 5));
        argument("b gives it with a loose row", () -> forms.part(3, 5, 200));
        argument("a is it", () -> forms.part(300, 300, 5));
        argument("b is it", () -> forms.part(300, 5, 300));
        argument("a syllable gives it", () -> forms.part(4352, 44033, -1));
        form("4352 4449 3 1 2", of(44032, 3, 1, 2), 2, "the syllable's row is what it was");
        form("4352 4449 1 2 3 1 2 300", forms, 2, "none was told");
        does("b may be NONE", () -> forms.part(300, 1, -1));
        does("without b, another may have just that row", () -> forms.part(301, 1, -1));
    }

    private void partFull() {
        sentence(4, "IllegalState: 120 rows are told.");
        NormalForms forms = of(1118, 1119, 1120);
        for (int i = 0; i < 120; i++) {
            int at = i;
            does("row " + (i + 1), () -> forms.part(1000 + at, 1, 2000 + at));
        }
        state("row 121", () -> forms.part(1120, 1, 2120));
        argument("row 121 of a syllable", () -> forms.part(44032, 1, 2120));
        argument("row 121 just as another", () -> forms.part(1120, 1, 2119));
        argument("row 121 that gives itself", () -> forms.part(1120, 1, 1120));
        form("1 2118 1 2119 1120", forms, 0, "row 121 was not told");
    }

    private void loose() {
        sentence(5, "A character's LOOSE row: a, b, c, b or c being NONE if it is shorter.");
        NormalForms forms = of(100, 101, 102);
        does("three", () -> forms.loose(100, 1, 2, 3));
        does("two", () -> forms.loose(101, 4, 5, NormalForms.NONE));
        does("one", () -> forms.loose(102, 6, NormalForms.NONE, NormalForms.NONE));
        form("100 101 102", forms, 0, "loose rows are not part rows");
        form("100 101 102", forms, 1, "loose rows are not part rows");
        form("1 2 3 4 5 6", forms, 2, "loose rows");
        form("1 2 3 4 5 6", forms, 3, "loose rows have no composite");
    }

    private void looseRefused() {
        sentence(5, "IllegalArgument: it is a syllable, or has a row; a is no character, or b or c neither that nor "
            + "NONE, or c is not NONE though b is; or, taken apart, even with LOOSE rows, one would give the character "
            + "itself.");
        NormalForms forms = of(44032, 100, 200, 300);
        forms.part(100, 1, 2);
        forms.loose(200, 3, 100, -1);
        argument("a syllable", () -> forms.loose(44032, 5, 6, 7));
        argument("a syllable", () -> forms.loose(50000, 5, -1, -1));
        argument("a syllable", () -> forms.loose(55203, 5, 6, 7));
        argument("it has a part row", () -> forms.loose(100, 5, 6, 7));
        argument("it has a loose row", () -> forms.loose(200, 5, 6, 7));
        argument("it is no character", () -> forms.loose(-1, 5, 6, 7));
        argument("it is no character", () -> forms.loose(LAST + 1, 5, 6, 7));
        argument("a is no character", () -> forms.loose(300, LAST + 1, 6, 7));
        argument("a is NONE", () -> forms.loose(300, -1, 6, 7));
        argument("a, b and c are NONE", () -> forms.loose(300, -1, -1, -1));
        argument("b is no character", () -> forms.loose(300, 5, LAST + 1, 7));
        argument("b is neither a character nor NONE", () -> forms.loose(300, 5, -2, -1));
        argument("c is no character", () -> forms.loose(300, 5, 6, LAST + 1));
        argument("c is neither a character nor NONE", () -> forms.loose(300, 5, 6, -2));
        argument("c is not NONE though b is", () -> forms.loose(300, 5, -1, 7));
        argument("c is not NONE though b is", () -> forms.loose(300, 5, -1, 0));
        argument("a gives it", () -> forms.loose(2, 100, 5, 6));
        argument("b gives it", () -> forms.loose(2, 5, 100, 6));
        argument("c gives it", () -> forms.loose(2, 5, 6, 100));
        argument("a gives it with a loose row", () -> forms.loose(1, 200, 5, 6));
        argument("b gives it with a loose row", () -> forms.loose(3, 5, 200, 6));
        argument("c gives it with a loose row", () -> forms.loose(1, 5, 6, 200));
        argument("a is it", () -> forms.loose(300, 300, -1, -1));
        argument("b is it", () -> forms.loose(300, 5, 300, -1));
        argument("c is it", () -> forms.loose(300, 5, 6, 300));
        argument("a syllable gives it", () -> forms.loose(4520, 1, 2, 44033));
        form("4352 4449 1 2 3 1 2 300", forms, 2, "none was told");
        does("just as a part row", () -> forms.loose(300, 1, 2, -1));
        does("just as a loose row", () -> forms.loose(301, 1, 2, -1));
        does("just as a syllable's row", () -> forms.loose(302, 4352, 4449, -1));
    }

    private void looseFull() {
        sentence(5, "IllegalState: 120 rows are told.");
        NormalForms forms = of(1118, 1119, 1120);
        for (int i = 0; i < 120; i++) {
            int at = i;
            does("row " + (i + 1), () -> forms.loose(1000 + at, 1, 2, 2000 + at));
        }
        state("row 121", () -> forms.loose(1120, 1, 2, 2120));
        argument("row 121 of a syllable", () -> forms.loose(44032, 1, 2, 2120));
        argument("row 121 of c without b", () -> forms.loose(1120, 1, -1, 2120));
        argument("row 121 that gives itself", () -> forms.loose(1120, 1, 2, 1120));
        form("1 2 2118 1 2 2119 1120", forms, 2, "row 121 was not told");
    }

    private void exclude() {
        sentence(6, "A character is EXCLUDED from being put together, or not.");
        NormalForms forms = of(192, 44032);
        forms.part(192, 65, 768);
        form("192 44032", forms, 1, "not excluded");
        does("a character", () -> forms.exclude(192, true));
        form("65 768 44032", forms, 1, "excluded");
        form("65 768 44032", forms, 3, "excluded");
        does("a syllable", () -> forms.exclude(44032, true));
        form("65 768 4352 4449", forms, 1, "both excluded");
        does("not any more", () -> forms.exclude(192, false));
        form("192 4352 4449", forms, 1, "one excluded");
        does("not any more, again", () -> forms.exclude(192, false));
        does("not any more", () -> forms.exclude(44032, false));
        form("192 44032", forms, 1, "none excluded");
    }

    private void excludeRefused() {
        sentence(6, "IllegalArgument; IllegalState: there are 60 that are.");
        NormalForms forms = of(192);
        forms.part(192, 65, 768);
        for (boolean is : new boolean[] {true, false}) {
            argument("no character", () -> forms.exclude(-1, is));
            argument("no character", () -> forms.exclude(LAST + 1, is));
            argument("no character", () -> forms.exclude(Integer.MIN_VALUE, is));
            argument("no character", () -> forms.exclude(Integer.MAX_VALUE, is));
        }
        for (int i = 0; i < 60; i++) {
            int at = i;
            does("number " + (i + 1), () -> forms.exclude(1000 + at, true));
            does("number " + (i + 1) + " again", () -> forms.exclude(1000 + at, true));
        }
        state("number 61", () -> forms.exclude(192, true));
        argument("number 61 that is no character", () -> forms.exclude(-1, true));
        form("192", forms, 1, "number 61 is not excluded");
        does("one of them no more", () -> forms.exclude(1030, false));
        does("so there is room", () -> forms.exclude(192, true));
        form("65 768", forms, 1, "it is excluded");
    }

    private void add() {
        sentence(7, "Up to five characters more, up to the first that is NONE: how many the text has.");
        NormalForms forms = new NormalForms();
        answers(5, "five", () -> forms.add(1, 2, 3, 4, 5));
        answers(9, "four", () -> forms.add(6, 7, 8, 9, -1));
        answers(12, "three", () -> forms.add(10, 11, 12, -1, 99));
        answers(14, "two", () -> forms.add(13, 14, -1, 99, 99));
        answers(15, "one", () -> forms.add(15, -1, 99, 99, 99));
        answers(15, "none", () -> forms.add(-1, 99, 99, 99, 99));
        form("1 2 3 4 5 6 7 8 9 10 11 12 13 14 15", forms, 0, "up to the first that is NONE");
    }

    private void addRefused() {
        sentence(7, "IllegalArgument; IllegalState: there would be more than 1000.");
        NormalForms forms = new NormalForms();
        for (int wrong : new int[] {-2, LAST + 1, Integer.MIN_VALUE, Integer.MAX_VALUE}) {
            answers(Expect.ARGUMENT, "a is " + wrong, () -> forms.add(wrong, 2, 3, 4, 5));
            answers(Expect.ARGUMENT, "b is " + wrong, () -> forms.add(1, wrong, 3, 4, 5));
            answers(Expect.ARGUMENT, "c is " + wrong, () -> forms.add(1, 2, wrong, 4, 5));
            answers(Expect.ARGUMENT, "d is " + wrong, () -> forms.add(1, 2, 3, wrong, 5));
            answers(Expect.ARGUMENT, "e is " + wrong, () -> forms.add(1, 2, 3, 4, wrong));
        }
        answers(0, "none was added", () -> length(forms));
        NormalForms full = full(7);
        answers(1000, "1000", () -> length(full));
        answers(Expect.STATE, "1001", () -> full.add(7, -1, -1, -1, -1));
        answers(Expect.STATE, "1005", () -> full.add(7, 7, 7, 7, 7));
        answers(Expect.ARGUMENT, "1001 with what is no character", () -> full.add(-2, -1, -1, -1, -1));
        answers(1000, "none was added", () -> length(full));
    }

    private void clear() {
        sentence(8, "The text is empty; how many characters it had.");
        NormalForms forms = of(1, 2, 3);
        answers(3, "it had three", forms::clear);
        answers(0, "it is empty", () -> length(forms));
        answers(0, "it is empty", forms::readers);
        answers(0, "it had none", forms::clear);
        form("", forms, 0, "it is empty");
        answers(1000, "it had 1000", full(7)::clear);
    }

    private void form() {
        sentence(9, "The text in a form 0 .. 3, in place of the form asked for before: how many characters it has.");
        NormalForms forms = of(192, 807, 64257, 44033);
        forms.mark(768, 768, 230);
        forms.mark(807, 807, 202);
        forms.part(192, 65, 768);
        forms.loose(64257, 102, 105, -1);
        answers(7, "form 0", () -> forms.form(0));
        expect.same("65 807 768 64257 4352 4449 4520", promise + "form 0", Expect.shown(forms));
        answers(4, "form 1", () -> forms.form(1));
        expect.same("192 807 64257 44033", promise + "form 1", Expect.shown(forms));
        answers(8, "form 2", () -> forms.form(2));
        expect.same("65 807 768 102 105 4352 4449 4520", promise + "form 2", Expect.shown(forms));
        answers(5, "form 3", () -> forms.form(3));
        expect.same("192 807 102 105 44033", promise + "form 3", Expect.shown(forms));
        answers(-1, "nothing is left of form 2", () -> forms.at(5));
        answers(4, "the text is what it was", () -> length(forms));
    }

    private void formRefused() {
        sentence(9, "IllegalArgument: there is no such form.");
        NormalForms forms = of(5);
        for (int wrong : new int[] {-1, 4, Integer.MIN_VALUE, Integer.MAX_VALUE}) {
            answers(Expect.ARGUMENT, "form " + wrong, () -> forms.form(wrong));
            answers(-1, "none was asked for", () -> forms.at(0));
        }
        for (int form = 0; form <= 3; form++) {
            int asked = form;
            answers(1, "form " + form, () -> forms.form(asked));
        }
        forms.clear();
        answers(Expect.ARGUMENT, "form 4", () -> forms.form(4));
        answers(5, "the form of before stays", () -> forms.at(0));
    }

    private void formTooLong() {
        sentence(9, "IllegalState: taken apart it would have more than 2000 (the form of before stays).");
        NormalForms forms = full(100);
        forms.part(100, 1, 2);
        answers(2000, "2000", () -> forms.form(0));
        answers(1000, "2000 put together", () -> forms.form(1));
        forms.loose(2, 3, 4, -1);
        answers(2000, "2000 without loose rows", () -> forms.form(0));
        answers(Expect.STATE, "3000 with loose rows", () -> forms.form(2));
        answers(Expect.STATE, "3000 with loose rows", () -> forms.form(3));
        answers(Expect.ARGUMENT, "3000, in no such form", () -> forms.form(4));
        answers(2, "the form of before stays", () -> forms.at(1999));
        answers(-1, "the form of before stays", () -> forms.at(2000));
        NormalForms one = new NormalForms();
        one.part(100, 1, 2);
        one.loose(200, 100, 3, -1);
        for (int i = 0; i < 199; i++) {
            one.add(100, 100, 100, 100, 100);
        }
        one.add(100, 100, 100, 100, 200);
        answers(1999, "1999", () -> one.form(0));
        answers(Expect.STATE, "2001", () -> one.form(2));
        answers(Expect.STATE, "2001, though 1001 put together", () -> one.form(3));
        answers(200, "the form of before stays", () -> one.at(1998));
    }

    private void at() {
        sentence(10, "Character i of the form asked for last; NONE if there is none such.");
        NormalForms forms = of(192, 9);
        forms.part(192, 65, 768);
        answers(NormalForms.NONE, "none was asked for", () -> forms.at(0));
        forms.form(0);
        int[] due = {NormalForms.NONE, 65, 768, 9, NormalForms.NONE};
        for (int i = 0; i < due.length; i++) {
            int asked = i - 1;
            answers(due[i], "at " + asked, () -> forms.at(asked));
        }
        answers(NormalForms.NONE, "at the least", () -> forms.at(Integer.MIN_VALUE));
        answers(NormalForms.NONE, "at the most", () -> forms.at(Integer.MAX_VALUE));
        forms.form(1);
        forms.clear();
        forms.add(1, 2, 3, 4, 5);
        forms.isIn(0);
        answers(192, "the form asked for last", () -> forms.at(0));
        answers(9, "the form asked for last", () -> forms.at(1));
        answers(NormalForms.NONE, "the form asked for last", () -> forms.at(2));
    }

    private void keep() {
        sentence(11, "The text becomes the form asked for last (if none was, it stays as it is): how many characters it "
            + "has.");
        NormalForms forms = of(192, 9);
        forms.part(192, 65, 768);
        answers(2, "none was asked for", forms::keep);
        form("192 9", forms, 1, "it stays as it is");
        answers(3, "form 0", () -> forms.form(0));
        answers(3, "keep of form 0", forms::keep);
        answers(3, "the text is form 0", () -> length(forms));
        answers(true, "the text is form 0", () -> forms.isIn(0));
        answers(false, "the text is form 0", () -> forms.isIn(1));
        form("192 9", forms, 1, "of the text that was kept");
        answers(2, "keep of form 1", forms::keep);
        answers(2, "the text is form 1", () -> length(forms));
        answers(true, "the text is form 1", () -> forms.isIn(1));
    }

    private void keepTooLong() {
        sentence(11, "IllegalState: that are more than 1000.");
        NormalForms forms = new NormalForms();
        forms.part(100, 1, 2);
        for (int i = 0; i < 100; i++) {
            forms.add(100, 100, 100, 100, 100);
        }
        forms.form(0);
        answers(1000, "1000", forms::keep);
        forms.form(1);
        forms.keep();
        forms.add(9, -1, -1, -1, -1);
        answers(1001, "form of 1001", () -> forms.form(0));
        answers(Expect.STATE, "1001", forms::keep);
        answers(501, "the text stays", () -> length(forms));
        answers(true, "the text stays", () -> forms.isIn(1));
        answers(9, "the form stays", () -> forms.at(1000));
    }

    private void isIn() {
        sentence(12, "Whether the text is in a form: the same as that form of it.");
        int[][] texts = {{}, {1, 9}, {192}, {65, 768}, {192, 807}, {65, 807, 768}, {65, 768, 807}, {64257}, {44033},
            {8491}, {9, 8491}};
        String[] due = {"1111", "1111", "0101", "1010", "0101", "1010", "0000", "1100", "0101", "0000", "0000"};
        for (int i = 0; i < texts.length; i++) {
            NormalForms forms = of(texts[i]);
            forms.mark(768, 768, 230);
            forms.mark(807, 807, 202);
            forms.part(192, 65, 768);
            forms.part(8491, 197, -1);
            forms.loose(64257, 102, 105, -1);
            for (int form = 0; form <= 3; form++) {
                int asked = form;
                answers(due[i].charAt(form) == '1', "text " + i + " in " + form, () -> forms.isIn(asked));
            }
            answers(texts[i].length, "the text is what it was", () -> length(forms));
        }
    }

    private void isInRefused() {
        sentence(12, "IllegalArgument: there is no such form.");
        NormalForms forms = of(5);
        for (int wrong : new int[] {-1, 4, Integer.MIN_VALUE, Integer.MAX_VALUE}) {
            answers(Expect.ARGUMENT, "in " + wrong, () -> forms.isIn(wrong));
        }
        answers(true, "in 0", () -> forms.isIn(0));
        answers(true, "in 3", () -> forms.isIn(3));
    }

    private void isInTooLong() {
        sentence(12, "IllegalState, as with form (which is not asked for by this).");
        NormalForms forms = full(100);
        forms.part(100, 1, 2);
        answers(false, "2000", () -> forms.isIn(0));
        answers(true, "2000 put together", () -> forms.isIn(1));
        answers(-1, "none was asked for", () -> forms.at(0));
        answers(1000, "none was asked for", forms::keep);
        answers(true, "it was not kept", () -> forms.isIn(1));
        forms.loose(2, 3, 4, -1);
        forms.form(1);
        answers(Expect.STATE, "3000", () -> forms.isIn(2));
        answers(Expect.STATE, "3000", () -> forms.isIn(3));
        answers(Expect.ARGUMENT, "3000, in no such form", () -> forms.isIn(4));
        answers(false, "2000 without loose rows", () -> forms.isIn(0));
        answers(100, "the form asked for last stays", () -> forms.at(999));
        answers(-1, "the form asked for last stays", () -> forms.at(1000));
    }

    /** A text in which each rule tells a place, and the rules of its places. */
    private static final int[] KINDS =
        {1, 2, 0, 3, 9, 10, 11, 11, 0, 4, 5, 8, 7, 0, 14, 5, 14, 6, 6, 6};
    private static final int[] RULES =
        {1, 3, 4, 5, 4, 6, 7, 8, 999, 9, 9, 91, 999, 92, 999, 9, 11, 999, 12, 999, 2};

    private static NormalForms ofKinds(int... kinds) {
        NormalForms forms = new NormalForms();
        for (int kind = 1; kind <= 14; kind++) {
            forms.property(kind, kind, kind);
        }
        Expect.addAll(forms, kinds);
        return forms;
    }

    private void ends() {
        sentence(13, "Whether a READER'S CHARACTER of the text ends at a place.");
        NormalForms forms = ofKinds(KINDS);
        boolean[] due = {true, false, true, true, true, false, false, false, true, false, false, false, true, false, true,
            false, false, true, false, true, true};
        for (int place = 0; place < due.length; place++) {
            int asked = place;
            answers(due[place], "place " + place, () -> forms.ends(asked));
        }
        answers(false, "with no character", () -> new NormalForms().ends(0));
        forms.form(0);
        forms.clear();
        forms.add(1, 2, -1, -1, -1);
        answers(false, "of the text, not of the form", () -> forms.ends(1));
        answers(true, "of the text, not of the form", () -> forms.ends(2));
    }

    private void endsRefused() {
        sentence(13, "IndexOutOfBounds: there is no such place.");
        NormalForms forms = of(1, 2, 3);
        for (int wrong : new int[] {-1, 4, Integer.MIN_VALUE, Integer.MAX_VALUE}) {
            answers(Expect.PLACE, "place " + wrong, () -> forms.ends(wrong));
        }
        answers(true, "place 0", () -> forms.ends(0));
        answers(true, "place 3", () -> forms.ends(3));
        forms.clear();
        answers(false, "place 0 of no text", () -> forms.ends(0));
        answers(Expect.PLACE, "place 1 of no text", () -> forms.ends(1));
    }

    private void rule() {
        sentence(14, "By which rule that is told.");
        NormalForms forms = ofKinds(KINDS);
        for (int place = 0; place < RULES.length; place++) {
            int asked = place;
            answers(RULES[place], "place " + place, () -> forms.rule(asked));
        }
        answers(1, "with no character", () -> new NormalForms().rule(0));
    }

    private void ruleRefused() {
        sentence(14, "IndexOutOfBounds.");
        NormalForms forms = of(1, 2, 3);
        for (int wrong : new int[] {-1, 4, Integer.MIN_VALUE, Integer.MAX_VALUE}) {
            answers(Expect.PLACE, "place " + wrong, () -> forms.rule(wrong));
        }
        answers(1, "place 0", () -> forms.rule(0));
        answers(2, "place 3", () -> forms.rule(3));
        forms.clear();
        answers(1, "place 0 of no text", () -> forms.rule(0));
        answers(Expect.PLACE, "place 1 of no text", () -> forms.rule(1));
    }

    private void readers() {
        sentence(15, "How many READER'S CHARACTERS the text has.");
        answers(9, "one for each end but the first", ofKinds(KINDS)::readers);
        answers(0, "no text", new NormalForms()::readers);
        answers(1, "one character", ofKinds(4)::readers);
        answers(1, "CR and LF", ofKinds(1, 2)::readers);
        answers(2, "LF and CR", ofKinds(2, 1)::readers);
        answers(3, "five flags", ofKinds(6, 6, 6, 6, 6)::readers);
        answers(1000, "a full text", full(7)::readers);
    }
}
