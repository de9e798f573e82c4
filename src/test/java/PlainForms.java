import java.util.ArrayList;
import java.util.HashMap;
import java.util.HashSet;
import java.util.List;
import java.util.Map;
import java.util.Set;
import java.util.regex.Pattern;

/** The document's words once more, word by word and without a thought for speed, to compare with. */
final class PlainForms {
    private record Range(int first, int last, int value) { }

    private record Row(List<Integer> parts, boolean loose) { }

    private static final int[] RULES = {3, 4, 5, 6, 7, 8, 9, 91, 92, 11, 12};
    private static final Pattern[] PATTERNS = {
        Pattern.compile("c\\|n"), Pattern.compile("[cnx]\\|"), Pattern.compile("\\|[cnx]"),
        Pattern.compile("l\\|[lvyz]"), Pattern.compile("[yv]\\|[vt]"), Pattern.compile("[zt]\\|t"),
        Pattern.compile("\\|[ej]"), Pattern.compile("\\|s"), Pattern.compile("p\\|"),
        Pattern.compile("ie*j\\|i"), Pattern.compile("(?<!f)f(ff)*\\|f"),
    };
    private static final Map<List<Integer>, Integer> SYLLABLES = new HashMap<>();

    static {
        for (int s = 44032; s <= 55203; s++) {
            SYLLABLES.put(syllableParts(s), s);
        }
    }

    private final List<Range> marks = new ArrayList<>();
    private final List<Range> kinds = new ArrayList<>();
    private final Map<Integer, Row> rows = new HashMap<>();
    private final Set<Integer> excluded = new HashSet<>();
    private List<Integer> text = new ArrayList<>();
    private List<Integer> asked = null;

    private static void argument(boolean isRight) {
        if (!isRight) {
            throw new IllegalArgumentException();
        }
    }

    private static void state(boolean isRight) {
        if (!isRight) {
            throw new IllegalStateException();
        }
    }

    private static boolean isCharacter(int c) {
        return 0 <= c && c <= 1114111;
    }

    private static boolean isSyllable(int c) {
        return 44032 <= c && c <= 55203;
    }

    private static int last(List<Range> ranges, int c) {
        int value = 0;
        for (Range range : ranges) {
            if (range.first <= c && c <= range.last) {
                value = range.value;
            }
        }
        return value;
    }

    private static void range(List<Range> ranges, int first, int last, int value, int most) {
        argument(isCharacter(first) && isCharacter(last) && first <= last && 0 <= value && value <= most);
        state(ranges.size() < 60);
        ranges.add(new Range(first, last, value));
    }

    void mark(int first, int last, int kind) {
        range(marks, first, last, kind, 254);
    }

    void property(int first, int last, int kind) {
        range(kinds, first, last, kind, 14);
    }

    private Row rowOf(int c) {
        return isSyllable(c) ? new Row(syllableParts(c), false) : rows.get(c);
    }

    private static List<Integer> syllableParts(int s) {
        int t = (s - 44032) % 28;
        int v = (s - 44032) / 28 % 21;
        int l = (s - 44032) / 28 / 21;
        return t == 0 ? List.of(4352 + l, 4449 + v) : List.of(s - t, 4519 + t);
    }

    /** All that a character gives on the way, itself too. */
    private void reach(int c, Set<Integer> reached) {
        if (reached.add(c) && rowOf(c) != null) {
            for (int part : rowOf(c).parts) {
                reach(part, reached);
            }
        }
    }

    private int withRow(List<Integer> parts) {
        for (Map.Entry<Integer, Row> entry : rows.entrySet()) {
            if (!entry.getValue().loose && entry.getValue().parts.equals(parts)) {
                return entry.getKey();
            }
        }
        return SYLLABLES.getOrDefault(parts, -1);
    }

    private void tell(int character, boolean loose, List<Integer> parts) {
        Set<Integer> reached = new HashSet<>();
        for (int part : parts) {
            reach(part, reached);
        }
        argument(!reached.contains(character));
        state(rows.size() < 120);
        rows.put(character, new Row(parts, loose));
    }

    void part(int character, int a, int b) {
        argument(isCharacter(character) && rowOf(character) == null);
        argument(isCharacter(a) && (b == -1 || isCharacter(b)));
        argument(b == -1 || withRow(List.of(a, b)) == -1);
        tell(character, false, b == -1 ? List.of(a) : List.of(a, b));
    }

    void loose(int character, int a, int b, int c) {
        argument(isCharacter(character) && rowOf(character) == null);
        argument(isCharacter(a) && (b == -1 || isCharacter(b)) && (c == -1 || isCharacter(c)));
        argument(b != -1 || c == -1);
        tell(character, true, b == -1 ? List.of(a) : c == -1 ? List.of(a, b) : List.of(a, b, c));
    }

    void exclude(int character, boolean is) {
        argument(isCharacter(character));
        if (is) {
            state(excluded.contains(character) || excluded.size() < 60);
            excluded.add(character);
        } else {
            excluded.remove(character);
        }
    }

    int add(int... characters) {
        List<Integer> more = new ArrayList<>();
        for (int c : characters) {
            if (c == -1) {
                break;
            }
            argument(isCharacter(c));
            more.add(c);
        }
        state(text.size() + more.size() <= 1000);
        text.addAll(more);
        return text.size();
    }

    int clear() {
        int before = text.size();
        text = new ArrayList<>();
        return before;
    }

    private void apart(int c, boolean loosely, List<Integer> into) {
        state(into.size() <= 2000);
        Row row = rowOf(c);
        if (row == null || (row.loose && !loosely)) {
            into.add(c);
            return;
        }
        for (int part : row.parts) {
            apart(part, loosely, into);
        }
    }

    private void order(List<Integer> list) {
        int i = 0;
        while (i + 1 < list.size()) {
            int first = last(marks, list.get(i));
            int second = last(marks, list.get(i + 1));
            if (second > 0 && second < first) {
                list.add(i, list.remove(i + 1));
                // Of the neighbours before, only the nearest can have come out of order by this.
                i = Math.max(0, i - 1);
            } else {
                i++;
            }
        }
    }

    private void together(List<Integer> list) {
        int at = 1;
        while (at < list.size()) {
            int s = at - 1;
            while (s >= 0 && last(marks, list.get(s)) != 0) {
                s--;
            }
            int before = last(marks, list.get(at - 1));
            boolean open = s == at - 1 || (before < last(marks, list.get(at)) && before != 0);
            int composite = s >= 0 && open ? withRow(List.of(list.get(s), list.get(at))) : -1;
            if (composite != -1 && last(marks, composite) == 0 && !excluded.contains(composite)) {
                list.set(s, composite);
                list.remove(at);
            } else {
                at++;
            }
        }
    }

    private List<Integer> inForm(int form) {
        argument(0 <= form && form <= 3);
        List<Integer> list = new ArrayList<>();
        for (int c : text) {
            apart(c, form >= 2, list);
        }
        state(list.size() <= 2000);
        order(list);
        if (form == 1 || form == 3) {
            together(list);
        }
        return list;
    }

    int form(int form) {
        asked = inForm(form);
        return asked.size();
    }

    int at(int i) {
        return asked != null && 0 <= i && i < asked.size() ? asked.get(i) : -1;
    }

    int keep() {
        if (asked != null) {
            state(asked.size() <= 1000);
            text = new ArrayList<>(asked);
        }
        return text.size();
    }

    boolean isIn(int form) {
        return inForm(form).equals(text);
    }

    /** How many characters the text has. */
    int size() {
        return text.size();
    }

    /** How many characters the form asked for last has. */
    int shown() {
        return asked == null ? 0 : asked.size();
    }

    private int kind(int i) {
        return last(kinds, text.get(i));
    }

    int rule(int place) {
        if (place < 0 || place > text.size()) {
            throw new IndexOutOfBoundsException();
        }
        if (place == 0 || place == text.size()) {
            return place == 0 ? 1 : 2;
        }
        // The kinds up to the place as a word of letters, so that the rules can be read as patterns.
        StringBuilder before = new StringBuilder();
        for (int i = 0; i < place; i++) {
            before.append("ocnxejfpslvtyzi".charAt(kind(i)));
        }
        String here = before + "|" + "ocnxejfpslvtyzi".charAt(kind(place));
        for (int i = 0; i < RULES.length; i++) {
            if (PATTERNS[i].matcher(here).find()) {
                return RULES[i];
            }
        }
        return 999;
    }

    boolean ends(int place) {
        int rule = rule(place);
        return !text.isEmpty() && List.of(1, 2, 4, 5, 999).contains(rule);
    }

    int readers() {
        int count = 0;
        for (int place = 1; place <= text.size(); place++) {
            count += ends(place) ? 1 : 0;
        }
        return count;
    }
}
