import java.util.List;
import java.util.function.Supplier;
import java.util.function.ToLongFunction;

/**
 * "REFUSALS, of several the first one told here: NONE there is no such QUESTION, PAPER, PUPIL, PLACE,
 * JUDGE, number; BAD a number is not as told; STATE as told; FULL. They change nothing." Every refusal of
 * every call, of an object that has room for more, of one in use, and of one that is full.
 */
public final class RefusalsTest {
    private static final int NONE = ExamScales.NONE, BAD = ExamScales.BAD;
    private static final int STATE = ExamScales.STATE, FULL = ExamScales.FULL;
    private static final long NO = ExamScales.NO;
    private static final int MIN = Integer.MIN_VALUE, MAX = Integer.MAX_VALUE;
    private static final Due due = new Due();

    private final String name;
    private final Supplier<ExamScales> maker;
    private final String untouched;
    private final int questions, papers, pupils;

    private RefusalsTest(String name, Supplier<ExamScales> maker) {
        this.name = name;
        this.maker = maker;
        untouched = State.of(maker);
        questions = maker.get().count(0);
        papers = maker.get().count(1);
        pupils = maker.get().count(2);
    }

    public static void main(String[] args) {
        List<RefusalsTest> all = List.of(new RefusalsTest("room", School::papers),
                new RefusalsTest("in use", School::judged), new RefusalsTest("full", School::full));
        for (RefusalsTest test : all) {
            test.noSuchQuestion();
            test.noSuchPaper();
            test.noSuchPupil();
            test.noSuchPlaceJudgeNumber();
            test.notAsTold();
        }
        all.get(0).asToldWithRoom();
        all.get(1).asToldInUse();
        all.get(1).badAnswers();
        all.get(2).asToldFull();
        all.get(2).fullOfAll();
        due.end();
    }

    private void refused(String call, ToLongFunction<ExamScales> asked, long want) {
        due.refused(name + ", " + call, maker, untouched, asked, want);
    }

    /** The first ones that are not there on both sides, and the ends of int. */
    private static int[] notIn(int n) {
        return new int[] {-1, n, MIN, MAX};
    }

    private void noSuchQuestion() {
        for (int q : notIn(questions)) {
            refused("3: question " + q, x -> x.key(q, 1), NONE);
            refused("3: question " + q + " ahead of BAD", x -> x.key(q, 0), NONE);
            refused("4: question " + q, x -> x.strike(q, 1), NONE);
            refused("4: question " + q + " ahead of BAD", x -> x.strike(q, 2), NONE);
            refused("6: question " + q, x -> x.put(papers - 1, q), NONE);
            refused("9: question " + q, x -> x.answer(0, q, 1), NONE);
            refused("9: question " + q + " ahead of BAD", x -> x.answer(0, q, -1), NONE);
            refused("10: question " + q, x -> x.gap(0, q), NONE);
            refused("12: question " + q, x -> x.mark(0, q), NONE);
            refused("13: question " + q, x -> x.come(0, q), NONE);
            refused("15: question " + q, x -> x.easy(q, 0), NO);
            refused("16: question " + q, x -> x.sharp(q), NO);
            refused("17: question " + q, x -> x.leaky(q, 0, 1), NONE);
            refused("17: question " + q + " ahead of BAD", x -> x.leaky(q, 0, 0), NONE);
            refused("25: question " + q, x -> x.judge(0, 0, q, 1), NONE);
            refused("25: question " + q + " ahead of BAD", x -> x.judge(0, 0, q, -2), NONE);
        }
    }

    private void noSuchPaper() {
        for (int paper : notIn(papers)) {
            refused("6: paper " + paper, x -> x.put(paper, 0), NONE);
            refused("7: paper " + paper, x -> x.at(paper, 0), NONE);
            refused("8: paper " + paper, x -> x.pupil(paper, 0), NONE);
            refused("19: paper " + paper, x -> x.shared(paper, 0), NONE);
            refused("19: other paper " + paper, x -> x.shared(0, paper), NONE);
            refused("19: paper " + paper + " ahead of BAD", x -> x.shared(paper, paper), NONE);
            refused("20: paper " + paper, x -> x.sum(0, paper), NONE);
            refused("21: paper " + paper, x -> x.group(paper, 0, 0), NO);
            refused("21: other paper " + paper, x -> x.group(0, paper, 0), NO);
            refused("22: paper " + paper, x -> x.scale(paper, 0, 4, 0), NO);
            refused("22: other paper " + paper, x -> x.scale(0, paper, 4, 0), NO);
            refused("23: paper " + paper, x -> x.rank(paper, 4), NONE);
            refused("24: paper " + paper, x -> x.like(paper, 0, 4), NONE);
            refused("24: other paper " + paper, x -> x.like(0, paper, 4), NONE);
            refused("25: paper " + paper, x -> x.judge(0, paper, 0, 1), NONE);
            refused("25: paper " + paper + " ahead of BAD", x -> x.judge(0, paper, 0, -2), NONE);
            refused("26: paper " + paper, x -> x.cut(paper, 0), NO);
            refused("28: paper " + paper, x -> x.border(paper, 1), NONE);
            refused("28: paper " + paper + " ahead of BAD", x -> x.border(paper, -1), NONE);
            refused("30: paper " + paper, x -> x.pair(paper, 1, 0), NONE);
            refused("30: paper " + paper + " ahead of BAD", x -> x.pair(paper, 0, 0), NONE);
        }
    }

    private void noSuchPupil() {
        for (int pupil : notIn(pupils)) {
            refused("9: pupil " + pupil, x -> x.answer(pupil, 0, 1), NONE);
            refused("9: pupil " + pupil + " ahead of BAD", x -> x.answer(pupil, 0, -1), NONE);
            refused("10: pupil " + pupil, x -> x.gap(pupil, 0), NONE);
            refused("11: pupil " + pupil, x -> x.row(pupil, 0L), NONE);
            refused("12: pupil " + pupil, x -> x.mark(pupil, 0), NONE);
            refused("13: pupil " + pupil, x -> x.come(pupil, 0), NONE);
            refused("14: pupil " + pupil, x -> x.total(pupil), NONE);
            refused("20: pupil " + pupil, x -> x.sum(pupil, 0), NONE);
            refused("27: pupil " + pupil, x -> x.passes(pupil), NONE);
            refused("29: pupil " + pupil, x -> x.alike(pupil, 0), NONE);
            refused("29: other pupil " + pupil, x -> x.alike(0, pupil), NONE);
            refused("29: pupil " + pupil + " ahead of BAD", x -> x.alike(pupil, pupil), NONE);
        }
    }

    private void noSuchPlaceJudgeNumber() {
        for (int place : notIn(4)) {
            refused("8: place " + place, x -> x.pupil(0, place), NONE);
            refused("17: place " + place, x -> x.leaky(0, place, 1), NONE);
            refused("17: place " + place + " ahead of BAD", x -> x.leaky(0, place, 101), NONE);
        }
        for (int j : notIn(8)) {
            refused("25: judge " + j, x -> x.judge(j, 0, 0, 1), NONE);
            refused("25: judge " + j + " ahead of BAD", x -> x.judge(j, 0, 0, -2), NONE);
        }
        for (int i : notIn(12)) {
            refused("7: number " + i, x -> x.at(0, i), NONE);
        }
        for (int i : notIn(120)) {
            refused("18: number " + i, x -> x.leak(50, i), NONE);
        }
        for (int i : notIn(1770)) {
            refused("30: number " + i, x -> x.pair(0, 1, i), NONE);
        }
        for (int i : new int[] {-1, MIN}) {
            refused("18: number " + i + " ahead of BAD", x -> x.leak(0, i), NONE);
            refused("30: number " + i + " ahead of BAD", x -> x.pair(0, 0, i), NONE);
        }
        for (int what : notIn(6)) {
            refused("31: number " + what, x -> x.count(what), NONE);
        }
    }

    private void notAsTold() {
        for (int what : notIn(2)) {
            refused("15: what " + what, x -> x.easy(0, what), NO);
            refused("22: what " + what, x -> x.scale(0, 1, 4, what), NO);
            refused("26: what " + what, x -> x.cut(0, what), NO);
            refused("4: is " + what, x -> x.strike(0, what), BAD);
            refused("4: is " + what + ", the last question", x -> x.strike(questions - 1, what), BAD);
        }
        for (int what : notIn(3)) {
            refused("21: what " + what, x -> x.group(0, 1, what), NO);
        }
        for (int kind : notIn(4)) {
            refused("2: kind " + kind, x -> x.question(kind, 1, 0), BAD);
        }
        for (int kind = 0; kind < 4; kind++) {
            int k = kind;
            for (int most : new int[] {0, 11, MIN, MAX}) {
                refused("2: kind " + k + ", most " + most, x -> x.question(k, most, School.keyFor(k)), BAD);
            }
            for (int key : k == School.CHOICE ? new int[] {0, 256, MIN, MAX} : new int[] {1, -1, MIN, MAX}) {
                refused("2: kind " + k + ", key " + key, x -> x.question(k, 1, key), BAD);
            }
        }
        for (int key : new int[] {0, -1, 256, MIN, MAX}) {
            refused("3: key " + key, x -> x.key(1, key), BAD);
            refused("3: key " + key + " ahead of STATE", x -> x.key(0, key), BAD);
        }
        for (int bar : new int[] {0, 101, MIN, MAX}) {
            refused("17: bar " + bar, x -> x.leaky(0, 0, bar), BAD);
            refused("18: bar " + bar, x -> x.leak(bar, 0), BAD);
        }
        for (int v : new int[] {-2, 11, MIN, MAX}) {
            refused("25: v " + v, x -> x.judge(0, 0, 0, v), BAD);
        }
        for (int below : new int[] {-1, MIN}) {
            refused("28: d " + below, x -> x.border(0, below), BAD);
            refused("30: m " + below, x -> x.pair(0, below, 0), BAD);
        }
        for (int t : notIn(121)) {
            refused("22: t " + t, x -> x.scale(0, 1, t, 0), NO);
            refused("24: t " + t, x -> x.like(0, 1, t), NONE);
        }
        refused("19: they are one", x -> x.shared(0, 0), BAD);
        refused("22: they are one", x -> x.scale(0, 0, 4, 0), NO);
    }

    /** Papers without a pupil. */
    private void asToldWithRoom() {
        refused("6: it is in it", x -> x.put(0, 4), STATE);
        refused("25: it is not in it", x -> x.judge(0, 0, 2, 1), NONE);
        refused("25: nothing was told", x -> x.judge(0, 0, 0, -1), NONE);
        refused("23: an empty GROUP", x -> x.rank(0, 0), NONE);
        refused("24: an empty GROUP", x -> x.like(0, 1, 0), NONE);
        refused("22: an empty GROUP", x -> x.scale(0, 1, 0, 0), NO);
    }

    private void asToldInUse() {
        for (int q : new int[] {0, 2, 3, 4}) {
            refused("3: it is no CHOICE, " + q, x -> x.key(q, 1), STATE);
            refused("3: it is no CHOICE, " + q + ", the greatest KEY", x -> x.key(q, 255), STATE);
        }
        refused("6: there is a PUPIL", x -> x.put(0, 2), STATE);
        refused("6: it is in it, and there is a PUPIL", x -> x.put(1, 2), STATE);
        refused("9: it is not in its PAPER", x -> x.answer(0, 2, 1), NONE);
        refused("9: it is not in its PAPER, ahead of BAD", x -> x.answer(0, 2, 16), NONE);
        refused("10: it is not in its PAPER", x -> x.gap(0, 2), NONE);
        refused("10: a GAP", x -> x.gap(0, 3), NONE);
        refused("12: it is not in its PAPER", x -> x.mark(0, 2), NONE);
        refused("13: it is not in its PAPER", x -> x.come(0, 2), NONE);
        refused("20: it is its own", x -> x.sum(0, 0), BAD);
        refused("25: it is not in it", x -> x.judge(0, 0, 2, 1), NONE);
        refused("25: it is not in it, ahead of BAD", x -> x.judge(0, 0, 2, 99), NONE);
        refused("29: they are one", x -> x.alike(1, 1), BAD);
        refused("29: they are of two PAPERS", x -> x.alike(0, 3), BAD);
    }

    /** "BAD: no such answer": of each KIND the first one that is not taken, on both sides. */
    private void badAnswers() {
        int[][] firstNotTaken = {{0, 0, 6}, {0, 1, 8}, {3, 2, 16}, {0, 3, 3}, {0, 4, 5}};
        for (int[] f : firstNotTaken) {
            for (int a : new int[] {f[2], -1, MIN, MAX}) {
                refused("9: question " + f[1] + ", answer " + a, x -> x.answer(f[0], f[1], a), BAD);
            }
        }
        refused("11: ended by the first byte", x -> x.row(0, School.tape(254, 1, 1, 1)), 0);
        refused("11: the first byte is no such answer", x -> x.row(0, School.tape(6, 1, 1, 1)), 0);
    }

    private void asToldFull() {
        for (int kind = 0; kind < 4; kind++) {
            int k = kind;
            refused("2: kind " + k, x -> x.question(k, 1, School.keyFor(k)), FULL);
        }
        refused("5: the ninth", x -> x.paper(), FULL);
        refused("6: the 13th", x -> x.put(7, 1), FULL);
        refused("6: the 13th, the last question", x -> x.put(7, 29), FULL);
        refused("6: it is in it, ahead of FULL", x -> x.put(7, 0), STATE);
        refused("6: it is last in it, ahead of FULL", x -> x.put(7, 22), STATE);
        refused("6: there is a PUPIL, ahead of FULL", x -> x.put(0, 29), STATE);
        refused("6: no such question, ahead of FULL", x -> x.put(7, 30), NONE);
        for (int paper = 0; paper < 8; paper++) {
            for (int place = 0; place < 4; place++) {
                int p = paper, at = place;
                refused("8: paper " + p + ", place " + at, x -> x.pupil(p, at), FULL);
            }
        }
        refused("8: no such place, ahead of FULL", x -> x.pupil(0, 4), NONE);
        refused("8: no such paper, ahead of FULL", x -> x.pupil(8, 0), NONE);
    }

    /** What the object is full of, so that the refusals above are told of what the document means. */
    private void fullOfAll() {
        ExamScales x = maker.get();
        due.is("31: questions", x.count(0), 30);
        due.is("31: papers", x.count(1), 8);
        due.is("31: pupils", x.count(2), 60);
        due.is("7: the last place", x.at(7, 11), 22);
        due.is("9: the last pupil is right at the last question", x.mark(59, 29), 8);
        due.is("17: the last pupil's place", x.leaky(29, 3, 99), 1);
        due.is("4: a STRUCK one", x.strike(28, 1), 1);
    }
}
