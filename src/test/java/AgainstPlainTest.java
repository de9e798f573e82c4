import java.util.Random;

/** All promises: long runs of calls, answered by NormalForms and by the document's words done plainly. */
public final class AgainstPlainTest {
    /** A call with what is asked after it stays within the document's 512. */
    private static final int CALLS = 506;
    private static final int[] EDGES = {
        -1, -1, -1, -2, 0, 1114111, 1114112, 44031, 44032, 44033, 44059, 44060, 55175, 55176, 55203, 55204, 4351,
        4352, 4353, 4370, 4371, 4448, 4449, 4450, 4469, 4470, 4519, 4520, 4521, 4546, 4547,
        Integer.MIN_VALUE, Integer.MAX_VALUE,
    };

    private final Random random;
    private final Expect expect;
    private final String run;
    /** How often each kind of call comes: tables, text, forms, readers. */
    private final int[] weights;
    private final int alphabet;
    private final NormalForms forms = new NormalForms();
    private final PlainForms plain = new PlainForms();
    private int calls = 0;

    private AgainstPlainTest(Expect expect, int seed) {
        this.expect = expect;
        random = new Random(seed);
        run = "run " + seed + ": ";
        weights = new int[] {1 + random.nextInt(8), 1 + random.nextInt(8), 1 + random.nextInt(8), random.nextInt(8)};
        alphabet = 4 + random.nextInt(200);
    }

    public static void main(String[] args) {
        Expect expect = new Expect();
        for (int seed = 0; seed < 400; seed++) {
            new AgainstPlainTest(expect, seed).go();
        }
        expect.end();
    }

    private void go() {
        for (calls = 0; calls < CALLS; calls++) {
            int all = weights[0] + weights[1] + weights[2] + weights[3];
            int chosen = random.nextInt(all);
            if (chosen < weights[0]) {
                table();
            } else if (chosen < weights[0] + weights[1]) {
                text();
            } else if (chosen < weights[0] + weights[1] + weights[2]) {
                formed();
            } else {
                read();
            }
        }
    }

    private int character() {
        int chosen = random.nextInt(20);
        if (chosen == 0) {
            return EDGES[random.nextInt(EDGES.length)];
        }
        if (chosen == 1) {
            return new int[] {4352, 4449, 4520, 44032}[random.nextInt(4)] + random.nextInt(3);
        }
        return random.nextInt(alphabet);
    }

    private int orNone(int character) {
        return random.nextInt(3) == 0 ? -1 : character;
    }

    private void both(String what, Runnable here, Runnable there) {
        expect.same(Expect.outcomeOf(there), run + what, Expect.outcomeOf(here));
    }

    private void table() {
        int a = character();
        int b = character();
        int c = character();
        int d = orNone(character());
        int last = random.nextInt(4) == 0 ? b : a + random.nextInt(4);
        int value = random.nextInt(random.nextInt(10) == 0 ? 300 : 6) - (random.nextInt(20) == 0 ? 1 : 0);
        int kind = random.nextInt(17) - (random.nextInt(20) == 0 ? 1 : 0);
        boolean is = random.nextInt(3) != 0;
        String what = a + " " + b + " " + c + " " + d + " " + value + " " + kind;
        switch (random.nextInt(5)) {
            case 0 -> both("mark " + what, () -> forms.mark(a, last, value), () -> plain.mark(a, last, value));
            case 1 -> both("property " + what, () -> forms.property(a, last, kind), () -> plain.property(a, last, kind));
            case 2 -> both("part " + what, () -> forms.part(a, b, d), () -> plain.part(a, b, d));
            case 3 -> both("loose " + what, () -> forms.loose(a, b, orNone(c, d), d),
                () -> plain.loose(a, b, orNone(c, d), d));
            default -> both("exclude " + what, () -> forms.exclude(a, is), () -> plain.exclude(a, is));
        }
    }

    /** NONE for some c, by what the characters are and not by chance, as both sides must be told the same. */
    private static int orNone(int c, int d) {
        return (c + d) % 4 == 0 ? -1 : c;
    }

    private void text() {
        int a = character();
        int b = character();
        int c = character();
        int d = orNone(character());
        int e = orNone(character());
        if (random.nextInt(40) == 0) {
            expect.answers(plain.clear(), run + "clear", forms::clear);
        } else if (random.nextInt(12) == 0) {
            expect.same(Expect.answerOf(plain::keep), run + "keep", Expect.answerOf(forms::keep));
        } else {
            expect.same(Expect.answerOf(() -> plain.add(a, b, c, d, e)), run + "add",
                Expect.answerOf(() -> forms.add(a, b, c, d, e)));
        }
    }

    private void formed() {
        int form = random.nextInt(30) == 0 ? random.nextInt(9) - 4 : random.nextInt(4);
        int i = random.nextInt(20) - 2;
        switch (random.nextInt(6)) {
            case 0 -> expect.same(Expect.answerOf(() -> plain.isIn(form)), run + "isIn " + form,
                Expect.answerOf(() -> forms.isIn(form)));
            case 1 -> expect.answers(plain.at(i), run + "at " + i, () -> forms.at(i));
            default -> {
                expect.same(Expect.answerOf(() -> plain.form(form)), run + "form " + form,
                    Expect.answerOf(() -> forms.form(form)));
                // Only some places, as an object is good for 512 calls.
                for (int k = 0; k < 5; k++) {
                    int place = random.nextInt(plain.shown() + 2) - 1;
                    expect.answers(plain.at(place), run + "form " + form + " at " + place, () -> forms.at(place));
                    calls++;
                }
            }
        }
    }

    private void read() {
        int place = random.nextInt(10) == 0 ? EDGES[random.nextInt(EDGES.length)] : random.nextInt(plain.size() + 2);
        switch (random.nextInt(8)) {
            case 0 -> expect.answers(plain.readers(), run + "readers", forms::readers);
            case 1, 2, 3 -> expect.same(Expect.answerOf(() -> plain.ends(place)), run + "ends " + place,
                Expect.answerOf(() -> forms.ends(place)));
            default -> expect.same(Expect.answerOf(() -> plain.rule(place)), run + "rule " + place,
                Expect.answerOf(() -> forms.rule(place)));
        }
    }
}
