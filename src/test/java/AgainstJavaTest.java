import java.text.Normalizer;
import java.util.Random;
import java.util.regex.Matcher;
import java.util.regex.Pattern;

/** Promises 9, 12 and 15 with real characters: the Java library must part and join them the same way. */
public final class AgainstJavaTest {
    private static final Normalizer.Form[] FORMS = {
        Normalizer.Form.NFD, Normalizer.Form.NFC, Normalizer.Form.NFKD, Normalizer.Form.NFKC,
    };
    private static final Pattern READERS = Pattern.compile("\\X");
    private static final int[][] ROWS = {
        {0xC0, 'A', 0x300}, {0xC1, 'A', 0x301}, {0xC2, 'A', 0x302}, {0xC3, 'A', 0x303}, {0xC5, 'A', 0x30A},
        {0xC7, 'C', 0x327}, {0xE0, 'a', 0x300}, {0xE2, 'a', 0x302}, {0xEA, 'e', 0x302}, {0x1EA4, 0xC2, 0x301},
        {0x1EA5, 0xE2, 0x301}, {0x1EA0, 'A', 0x323}, {0x1EAC, 0x1EA0, 0x302}, {0x1EA1, 'a', 0x323},
        {0x1EAD, 0x1EA1, 0x302}, {0x1EB9, 'e', 0x323}, {0x1EC7, 0x1EB9, 0x302}, {0x1E0B, 'd', 0x307},
        {0x1E0D, 'd', 0x323}, {0x1E61, 's', 0x307}, {0x1E63, 's', 0x323}, {0x1E69, 0x1E63, 0x307},
        {0x212B, 0xC5, -1}, {0x212A, 'K', -1}, {0x344, 0x308, 0x301}, {0x1E9B, 0x17F, 0x307}, {0x958, 0x915, 0x93C},
    };
    private static final int[][] LOOSE_ROWS = {
        {0xFB01, 'f', 'i', -1}, {0xFB03, 'f', 'f', 'i'}, {0x17F, 's', -1, -1}, {0xB2, '2', -1, -1},
        {0x2460, '1', -1, -1}, {0x3000, ' ', -1, -1}, {0x2162, 'I', 'I', 'I'}, {0x1E9A, 'a', 0x2BE, -1},
    };
    /** First, last and class; all marks that the texts here can have. */
    private static final int[][] MARKS = {
        {0x300, 0x304, 230}, {0x307, 0x308, 230}, {0x30A, 0x30A, 230}, {0x31B, 0x31B, 216}, {0x323, 0x323, 220},
        {0x327, 0x327, 202}, {0x344, 0x344, 230}, {0x345, 0x345, 240}, {0x93C, 0x93C, 7},
    };
    private static final int[] LETTERS = {'A', 'C', 'a', 'e', 'd', 's', 'K', 'f', 'i', '2', ' ', 0x915, 0x2BE};
    private static final int[] READ = {
        '\r', '\n', 7, 'a', 0x301, 0x200D, 0x1F1E6, 0x1F1E7, 0x903, 0x1100, 0x1161, 0x11A8, 0xAC00, 0xAC01, 0x1F600,
    };
    private static final int[] READ_KINDS = {1, 2, 3, 0, 4, 5, 6, 6, 8, 9, 10, 11, 12, 13, 14};

    public static void main(String[] args) {
        Expect expect = new Expect();
        Random random = new Random(7);
        for (int i = 0; i < 4000; i++) {
            forms(expect, random);
        }
        for (int i = 0; i < 4000; i++) {
            readers(expect, random);
        }
        expect.end();
    }

    private static NormalForms told() {
        NormalForms forms = new NormalForms();
        for (int[] mark : MARKS) {
            forms.mark(mark[0], mark[1], mark[2]);
        }
        for (int[] row : ROWS) {
            forms.part(row[0], row[1], row[2]);
        }
        for (int[] row : LOOSE_ROWS) {
            forms.loose(row[0], row[1], row[2], row[3]);
        }
        forms.exclude(0x958, true);
        return forms;
    }

    private static int character(Random random) {
        switch (random.nextInt(9)) {
            case 0, 1:
                return ROWS[random.nextInt(ROWS.length)][0];
            case 2:
                return LOOSE_ROWS[random.nextInt(LOOSE_ROWS.length)][0];
            case 3, 4:
                return LETTERS[random.nextInt(LETTERS.length)];
            case 5:
                return new int[] {0x1100, 0x1161, 0x11A8, 0xAC00, 0xD788, 0xD7A3}[random.nextInt(6)];
            default:
                int[] mark = MARKS[random.nextInt(MARKS.length)];
                return mark[0] + random.nextInt(mark[1] - mark[0] + 1);
        }
    }

    private static boolean isTold(String text) {
        // Tables of the library that are not told here would put these together, or take them apart.
        for (int i = 0; i < text.length(); i++) {
            boolean isKnown = false;
            for (int[] row : ROWS) {
                isKnown |= row[0] == text.charAt(i);
            }
            String apart = Normalizer.normalize(text.substring(i, i + 1), Normalizer.Form.NFD);
            boolean isSyllable = text.charAt(i) >= 0xAC00 && text.charAt(i) <= 0xD7A3;
            if (!isKnown && !isSyllable && !apart.equals(text.substring(i, i + 1))) {
                return false;
            }
        }
        return true;
    }

    private static void forms(Expect expect, Random random) {
        StringBuilder built = new StringBuilder();
        for (int i = 1 + random.nextInt(12); i > 0; i--) {
            built.appendCodePoint(character(random));
        }
        String text = built.toString();
        NormalForms forms = told();
        Expect.addAll(forms, text.codePoints().toArray());
        for (int form = 0; form <= 3; form++) {
            int asked = form;
            String due = Normalizer.normalize(text, FORMS[form]);
            if (!isTold(due)) {
                continue;
            }
            StringBuilder shown = new StringBuilder();
            due.codePoints().forEach(c -> shown.append(shown.length() == 0 ? "" : " ").append(c));
            expect.same(shown.toString(), "form " + form + " of " + text, Expect.formOf(forms, form));
            expect.answers(due.equals(text), text + " isIn " + form, () -> forms.isIn(asked));
        }
    }

    private static void readers(Expect expect, Random random) {
        NormalForms forms = new NormalForms();
        for (int i = 0; i < READ.length; i++) {
            forms.property(READ[i], READ[i], READ_KINDS[i]);
        }
        StringBuilder text = new StringBuilder();
        for (int i = 1 + random.nextInt(12); i > 0; i--) {
            int character = READ[random.nextInt(READ.length)];
            text.appendCodePoint(character);
            forms.add(character, -1, -1, -1, -1);
        }
        int due = 0;
        Matcher matcher = READERS.matcher(text);
        while (matcher.find()) {
            due++;
        }
        expect.answers(due, "readers of " + text.codePoints().boxed().toList(), forms::readers);
    }
}
