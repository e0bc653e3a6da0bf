/** Promises 8 to 14. */
public final class PupilsAndAnswersTest {
    private static final int NONE = ExamScales.NONE, BAD = ExamScales.BAD, FULL = ExamScales.FULL;
    private static final int MIN = Integer.MIN_VALUE, MAX = Integer.MAX_VALUE;
    private static final Due due = new Due();

    public static void main(String[] args) {
        pupil();
        answer();
        answerRefused();
        gap();
        row();
        rowEnds();
        rowAtTheEndsOfLong();
        rowOfEachLength();
        mark();
        come();
        total();
        due.end();
    }

    private static void pupil() {
        ExamScales x = School.papers();
        due.is("8: the first one", x.pupil(1, 0), 0);
        due.is("8: the last place", x.pupil(0, 3), 1);
        due.is("8: two are there", x.count(2), 2);
        due.is("8: all GAPS", x.count(3), 0);
        due.is("8: no question is COME TO", x.come(0, 2), 0);
        for (int pupil = 2; pupil < 60; pupil++) {
            due.is("8: pupil " + pupil, x.pupil(pupil % 2, pupil % 4), pupil);
        }
        for (int paper : new int[] {-1, 2, 8, MIN, MAX}) {
            due.refused("8: no paper " + paper, School::pupils, y -> y.pupil(paper, 0), NONE);
        }
        for (int place : new int[] {-1, 4, MIN, MAX}) {
            due.refused("8: no place " + place, School::pupils, y -> y.pupil(0, place), NONE);
        }
        due.refused("8: the 61st", PupilsAndAnswersTest::sixty, y -> y.pupil(0, 0), FULL);
        due.refused("8: NONE ahead of FULL, place", PupilsAndAnswersTest::sixty, y -> y.pupil(0, 4), NONE);
        due.refused("8: NONE ahead of FULL, paper", PupilsAndAnswersTest::sixty, y -> y.pupil(1, 0), NONE);
        ExamScales empty = new ExamScales();
        empty.paper();
        due.is("8: of a paper without questions", empty.pupil(0, 0), 0);
    }

    private static ExamScales sixty() {
        ExamScales x = School.plain(1, 1);
        for (int i = 0; i < 60; i++) {
            x.pupil(0, i % 4);
        }
        return x;
    }

    private static void answer() {
        ExamScales x = School.pupils();
        due.is("9: PLAIN 0", x.answer(0, 0, 0), 0);
        due.is("9: PLAIN MOST", x.answer(0, 0, 5), 5);
        due.is("9: TRIAL MOST", x.answer(0, 3, 2), 2);
        int[] worthOfOption = {0, 3, 3, 0, 0, 0, 0, 0};
        for (int a = 0; a < 8; a++) {
            due.is("9: CHOICE " + a, x.answer(0, 1, a), worthOfOption[a]);
        }
        int[] worthOfSteps = {0, 1, 0, 2, 0, 1, 0, 3, 0, 1, 0, 2, 0, 1, 0, 4};
        for (int a = 0; a < 16; a++) {
            due.is("9: STEPS " + a, x.answer(3, 2, a), worthOfSteps[a]);
        }
        due.is("9: the last ANSWER is kept", x.gap(3, 2), 15);
        ExamScales y = new ExamScales();
        y.question(School.STEPS, 10, 0);
        y.paper();
        y.put(0, 0);
        y.pupil(0, 0);
        due.is("9: ten steps", y.answer(0, 0, 1023), 10);
        due.is("9: nine of ten", y.answer(0, 0, 511), 9);
        due.is("9: the first one is not there", y.answer(0, 0, 1022), 0);
    }

    private static void answerRefused() {
        for (int pupil : new int[] {-1, 5, 60, MIN, MAX}) {
            due.refused("9: no pupil " + pupil, School::judged, x -> x.answer(pupil, 0, 1), NONE);
            due.refused("9: no pupil ahead of BAD", School::judged, x -> x.answer(pupil, 0, 6), NONE);
        }
        for (int q : new int[] {-1, 2, 5, 30, 32, MIN, MAX}) {
            due.refused("9: not in its paper " + q, School::judged, x -> x.answer(0, q, 1), NONE);
            due.refused("9: NONE ahead of BAD", School::judged, x -> x.answer(0, q, -1), NONE);
        }
        int[][] noSuch = {{0, 0, 6}, {0, 1, 8}, {3, 2, 16}, {0, 3, 3}, {0, 4, 5}};
        for (int[] c : noSuch) {
            due.refused("9: one too much, question " + c[1], School::judged, x -> x.answer(c[0], c[1], c[2]), BAD);
            for (int a : new int[] {-1, -2, 255, MIN, MAX}) {
                due.refused("9: " + a + ", question " + c[1], School::judged, x -> x.answer(c[0], c[1], a), BAD);
            }
        }
    }

    private static void gap() {
        ExamScales x = School.answered();
        due.is("10: what a CHOICE was, not its MARK", x.gap(0, 1), 2);
        due.is("10: it is a GAP", x.gap(0, 1), NONE);
        due.is("10: its MARK", x.mark(0, 1), 0);
        due.is("10: the TOTAL", x.total(0), 5);
        due.is("10: an ANSWER of 0", x.gap(1, 1), 0);
        due.is("10: steps", x.gap(4, 2), 5);
        due.is("10: one at first", x.gap(1, 4), NONE);
        due.is("10: ANSWERS left", x.count(3), 10);
        due.refused("10: a GAP stays one", School::answered, y -> y.gap(1, 4), NONE);
        due.refused("10: a GAP among ANSWERS", School::answered, y -> y.gap(0, 3), NONE);
        for (int pupil : new int[] {-1, 5, 60, MIN, MAX}) {
            due.refused("10: no pupil " + pupil, School::answered, y -> y.gap(pupil, 0), NONE);
        }
        for (int q : new int[] {-1, 2, 5, 30, 32, MIN, MAX}) {
            due.refused("10: not in its paper " + q, School::answered, y -> y.gap(0, q), NONE);
        }
    }

    private static void row() {
        ExamScales x = School.pupils();
        due.is("11: all four", x.row(0, School.tape(4, 1, 1, 2)), 4);
        due.is("11: the first byte is the highest", x.gap(0, 0), 4);
        due.is("11: the last one", x.gap(0, 4), 2);
        due.is("11: a GAP is taken, 254 is not", x.row(0, School.tape(3, 255)), 2);
        due.is("11: the first one", x.mark(0, 0), 3);
        due.is("11: the second one is a GAP now", x.gap(0, 1), NONE);
        due.is("11: the rest stays", x.gap(0, 3), 1);
        due.is("11: all GAPS", x.row(3, -1L), 3);
        due.is("11: the end at once", x.row(3, School.tape()), 0);
        due.is("11: zeroes are ANSWERS", x.row(3, 0L), 3);
        due.is("11: three of them", x.gap(3, 2), 0);
        ExamScales wide = School.plain(12, 1);
        wide.pupil(0, 0);
        for (int q = 0; q < 12; q++) {
            wide.answer(0, q, 9);
        }
        due.is("11: 8 of 12", wide.row(0, 0x0102030405060708L), 8);
        for (int q = 0; q < 12; q++) {
            due.is("11: of 12, question " + q, wide.mark(0, q), q < 8 ? q + 1 : 9);
        }
        for (int pupil : new int[] {-1, 5, 60, MIN, MAX}) {
            due.refused("11: no pupil " + pupil, School::answered, y -> y.row(pupil, 0L), NONE);
        }
        ExamScales empty = new ExamScales();
        empty.paper();
        empty.pupil(0, 0);
        due.is("11: of a paper without questions", empty.row(0, 0L), 0);
    }

    private static void rowEnds() {
        due.refused("11: the first one is no such answer", School::answered, x -> x.row(0, School.tape(6, 1)), 0);
        due.refused("11: the end at once", School::answered, x -> x.row(0, School.tape(254, 1)), 0);
        ExamScales x = School.answered();
        due.is("11: no ninth option", x.row(0, School.tape(1, 8, 1, 1)), 1);
        due.is("11: what was taken before it", x.gap(0, 0), 1);
        due.is("11: it stays", x.gap(0, 1), 2);
        due.is("11: so does the rest", x.gap(0, 4), 1);
        due.is("11: 253 is no option", x.row(0, School.tape(255, 253)), 1);
        ExamScales steps = new ExamScales();
        for (int q = 0; q < 3; q++) {
            steps.question(School.STEPS, 10, 0);
        }
        steps.paper();
        steps.put(0, 0);
        steps.put(0, 1);
        steps.put(0, 2);
        steps.pupil(0, 0);
        steps.answer(0, 1, 1023);
        steps.answer(0, 2, 7);
        due.is("11: 253 is a set of steps, 255 a GAP, 254 the end", steps.row(0, School.tape(253, 255, 254)), 2);
        due.is("11: 253", steps.gap(0, 0), 253);
        due.is("11: 255", steps.gap(0, 1), NONE);
        due.is("11: 254", steps.gap(0, 2), 7);
    }

    /** 128 and seven zeroes; 127 and seven GAPS; 0 and 1; all GAPS. */
    private static void rowAtTheEndsOfLong() {
        long[] tapes = {Long.MIN_VALUE, Long.MAX_VALUE, 0L, 1L, -1L, -2L};
        int[] taken = {8, 8, 8, 8, 8, 7};
        int[] first = {128, 127, 0, 0, NONE, NONE}, last = {0, NONE, 0, 1, NONE, 3};
        for (int i = 0; i < tapes.length; i++) {
            ExamScales x = eightSteps();
            due.is("11: taken of " + tapes[i], x.row(0, tapes[i]), taken[i]);
            due.is("11: the first one of " + tapes[i], x.gap(0, 0), first[i]);
            due.is("11: the last one of " + tapes[i], x.gap(0, 7), last[i]);
            due.is("11: behind the last one of " + tapes[i], x.gap(0, 8), 3);
        }
        for (int pupil : new int[] {-1, 1, 60, MIN, MAX}) {
            for (long w : tapes) {
                due.refused("11: no pupil " + pupil + ", " + w, PupilsAndAnswersTest::eightSteps, x -> x.row(pupil, w), NONE);
            }
        }
        ExamScales plain = School.answered();
        due.is("11: 128 is no PLAIN answer", plain.row(0, Long.MIN_VALUE), 0);
        due.is("11: nor is 127", plain.row(0, Long.MAX_VALUE), 0);
        due.is("11: the ANSWER stays", plain.gap(0, 0), 4);
    }

    /** Nine STEPS of 8, to all of which pupil 0 answers 3. */
    private static ExamScales eightSteps() {
        ExamScales x = new ExamScales();
        x.paper();
        for (int q = 0; q < 9; q++) {
            x.question(School.STEPS, 8, 0);
            x.put(0, q);
        }
        x.pupil(0, 0);
        for (int q = 0; q < 9; q++) {
            x.answer(0, q, 3);
        }
        return x;
    }

    /** A paper of 0 to 12 questions; the row ends by 254, or by no such answer, at each of its places. */
    private static void rowOfEachLength() {
        for (int questions = 0; questions <= 12; questions++) {
            for (int end = 0; end <= 8; end++) {
                for (int by : new int[] {254, 253, 11}) {
                    ExamScales x = School.plain(questions, 1);
                    x.pupil(0, 0);
                    int[] bytes = {2, 255, 2, 2, 10, 0, 255, 2};
                    if (end < 8) {
                        bytes[end] = by;
                    }
                    int taken = Math.min(questions, end);
                    String name = "11: " + questions + " questions, " + by + " at " + end;
                    for (int q = 0; q < questions; q++) {
                        x.answer(0, q, 7);
                    }
                    due.is(name, x.row(0, School.tape(bytes)), taken);
                    for (int q = 0; q < questions; q++) {
                        int due1 = q >= taken ? 7 : bytes[q] == 255 ? NONE : bytes[q];
                        due.is(name + ", question " + q, x.gap(0, q), due1);
                    }
                }
            }
        }
    }

    private static void mark() {
        ExamScales x = School.answered();
        due.is("12: PLAIN", x.mark(0, 0), 4);
        due.is("12: CHOICE of the KEY", x.mark(0, 1), 3);
        due.is("12: CHOICE not of it", x.mark(1, 1), 0);
        due.is("12: STEPS", x.mark(3, 2), 3);
        due.is("12: TRIAL", x.mark(2, 3), 2);
        due.is("12: GAP", x.mark(1, 4), 0);
        x.strike(0, 1);
        due.is("12: STRUCK", x.mark(0, 0), 4);
        for (int pupil : new int[] {-1, 5, 60, MIN, MAX}) {
            due.refused("12: no pupil " + pupil, School::answered, y -> y.mark(pupil, 0), NONE);
        }
        for (int q : new int[] {-1, 2, 5, 30, 32, MIN, MAX}) {
            due.refused("12: not in its paper " + q, School::answered, y -> y.mark(0, q), NONE);
        }
    }

    private static void come() {
        ExamScales x = School.pupils();
        due.is("13: nothing yet", x.come(0, 0), 0);
        x.answer(0, 3, 0);
        due.is("13: ahead of it, first", x.come(0, 0), 1);
        due.is("13: just ahead of it", x.come(0, 1), 1);
        due.is("13: itself, an ANSWER of 0", x.come(0, 3), 1);
        due.is("13: behind it", x.come(0, 4), 0);
        due.is("13: another pupil", x.come(1, 0), 0);
        x.answer(3, 0, 0);
        due.is("13: by the paper's row, not by numbers: ahead", x.come(3, 2), 1);
        due.is("13: by the paper's row: behind", x.come(3, 1), 0);
        x.gap(0, 3);
        due.is("13: not any more", x.come(0, 0), 0);
        for (int pupil : new int[] {-1, 5, 60, MIN, MAX}) {
            due.refused("13: no pupil " + pupil, School::answered, y -> y.come(pupil, 0), NONE);
        }
        for (int q : new int[] {-1, 2, 5, 30, 32, MIN, MAX}) {
            due.refused("13: not in its paper " + q, School::answered, y -> y.come(0, q), NONE);
        }
    }

    private static void total() {
        ExamScales x = School.answered();
        int[] totals = {8, 2, 8, 6, 5};
        for (int pupil = 0; pupil < 5; pupil++) {
            due.is("14: pupil " + pupil, x.total(pupil), totals[pupil]);
        }
        x.answer(0, 3, 2);
        due.is("14: a TRIAL does not count", x.total(0), 8);
        x.strike(1, 1);
        due.is("14: nor does a STRUCK one", x.total(0), 5);
        due.is("14: of the other paper neither", x.total(4), 2);
        ExamScales most = School.plain(12, 1);
        most.pupil(0, 0);
        for (int q = 0; q < 12; q++) {
            most.answer(0, q, 10);
        }
        due.is("14: the greatest one", most.total(0), 120);
        for (int pupil : new int[] {-1, 5, 60, MIN, MAX}) {
            due.refused("14: no pupil " + pupil, School::answered, y -> y.total(pupil), NONE);
        }
    }
}
