import java.util.function.Supplier;

/** Promises 19 to 24. */
public final class ScalesTest {
    private static final int NONE = ExamScales.NONE, BAD = ExamScales.BAD;
    private static final long NO = ExamScales.NO;
    private static final int MIN = Integer.MIN_VALUE, MAX = Integer.MAX_VALUE;
    private static final int[] NO_PAPERS = {-1, 2, 8, MIN, MAX};
    private static final Due due = new Due();

    public static void main(String[] args) {
        shared();
        sum();
        group();
        scale();
        scaleWithoutDistance();
        scaleIsNotThere();
        rank();
        like();
        likeRefused();
        due.end();
    }

    private static void shared() {
        ExamScales x = School.papers();
        due.is("19: questions 0 and 1", x.shared(0, 1), 2);
        due.is("19: the other way round", x.shared(1, 0), 2);
        x.put(1, 3);
        due.is("19: a TRIAL in both does not count", x.shared(0, 1), 2);
        x.strike(1, 1);
        due.is("19: nor does a STRUCK one", x.shared(0, 1), 1);
        x.paper();
        due.is("19: with a paper without questions", x.shared(2, 0), 0);
        due.is("19: all 12", School.plain(12, 2).shared(0, 1), 12);
        for (int paper : NO_PAPERS) {
            due.refused("19: no paper " + paper, School::answered, y -> y.shared(paper, 0), NONE);
            due.refused("19: no other paper " + paper, School::answered, y -> y.shared(0, paper), NONE);
            due.refused("19: NONE ahead of BAD", School::answered, y -> y.shared(paper, paper), NONE);
        }
        due.refused("19: they are one", School::answered, y -> y.shared(1, 1), BAD);
    }

    private static void sum() {
        ExamScales x = School.answered();
        int[] sums = {7, 2, 8, 3, 4};
        for (int pupil = 0; pupil < 5; pupil++) {
            due.is("20: pupil " + pupil, x.sum(pupil, pupil < 3 ? 1 : 0), sums[pupil]);
        }
        x.paper();
        due.is("20: nothing is SHARED", x.sum(0, 2), 0);
        x.put(2, 3);
        due.is("20: a TRIAL alone", x.sum(2, 2), 0);
        x.put(2, 4);
        due.is("20: one question", x.sum(0, 2), 1);
        x.strike(0, 1);
        due.is("20: one is STRUCK", x.sum(0, 1), 3);
        for (int pupil : new int[] {-1, 5, 60, MIN, MAX}) {
            due.refused("20: no pupil " + pupil, School::answered, y -> y.sum(pupil, 0), NONE);
        }
        for (int paper : NO_PAPERS) {
            due.refused("20: no paper " + paper, School::answered, y -> y.sum(0, paper), NONE);
            due.refused("20: neither pupil nor paper " + paper, School::answered, y -> y.sum(5, paper), NONE);
        }
        due.refused("20: its own", School::answered, y -> y.sum(0, 0), BAD);
        due.refused("20: its own, paper 1", School::answered, y -> y.sum(4, 1), BAD);
    }

    private static void groupIs(String what, ExamScales x, int p, int q, long... due3) {
        for (int i = 0; i < 3; i++) {
            due.is("21: " + what + ", what " + i, x.group(p, q, i), due3[i]);
        }
    }

    private static void group() {
        ExamScales x = School.answered();
        groupIs("SHARED SUMS 7 2 8", x, 0, 1, 3, 17, 22);
        groupIs("TOTALS 8 2 8", x, 0, 0, 3, 18, 24);
        groupIs("SHARED SUMS 3 4", x, 1, 0, 2, 7, 2);
        groupIs("TOTALS 6 5", x, 1, 1, 2, 11, 2);
        x.paper();
        groupIs("an empty GROUP", x, 2, 2, 0, 0, 0);
        groupIs("an empty GROUP, SHARED SUMS", x, 2, 0, 0, 0, 0);
        groupIs("nothing is SHARED", x, 0, 2, 3, 0, 0);
        x.strike(0, 1);
        groupIs("SHARED SUMS 3 0 3", x, 0, 1, 3, 6, 12);
        x.answer(2, 3, 0);
        groupIs("TOTALS 4 0 3, without the TRIAL", x, 0, 0, 3, 7, 5 + 7 + 2);
        for (int paper : NO_PAPERS) {
            due.refused("21: no paper " + paper, School::answered, y -> y.group(paper, 0, 0), NO);
            due.refused("21: no other paper " + paper, School::answered, y -> y.group(0, paper, 0), NO);
            due.refused("21: none of both " + paper, School::answered, y -> y.group(paper, paper, 0), NO);
        }
        for (int what : new int[] {-1, 3, MIN, MAX}) {
            due.refused("21: what " + what, School::answered, y -> y.group(0, 1, what), NO);
            due.refused("21: of TOTALS, what " + what, School::answered, y -> y.group(0, 0, what), NO);
        }
    }

    private static void scaleIs(String what, ExamScales x, int[] pqt, long above, long below) {
        due.is("22: " + what + ", above", x.scale(pqt[0], pqt[1], pqt[2], 0), above);
        due.is("22: " + what + ", below", x.scale(pqt[0], pqt[1], pqt[2], 1), below);
    }

    private static int[] of(int p, int q, int t) {
        return new int[] {p, q, t};
    }

    private static void scale() {
        ExamScales x = School.answered();
        scaleIs("17/3 - 22/24 = 19/4; 11/2 + 5/4", x, of(0, 1, 5), 27, 4);
        scaleIs("7/2 - 3/2 = 2; 6 - 11/3 * 24/22", x, of(1, 0, 4), 2, 1);
        scaleIs("below 0: -2; 6 - 23/3 * 12/11", x, of(1, 0, 0), -26, 11);
        scaleIs("17/3 + 114 * 11/12; + 2", x, of(0, 1, 120), 673, 6);
        ExamScales same = twoOfOneQuestion(2, 8, 1, 5);
        for (int t : new int[] {0, 1, 7, 120}) {
            scaleIs("one question in both papers, " + t, same, of(0, 1, t), t, 1);
            scaleIs("one question in both papers, back, " + t, same, of(1, 0, t), t, 1);
        }
    }

    /** Papers 0 and 1 of question 0 alone, each with two pupils, and a paper 2 without questions. */
    private static ExamScales twoOfOneQuestion(int... marks) {
        ExamScales x = School.plain(1, 2);
        x.paper();
        for (int i = 0; i < 4; i++) {
            x.pupil(i / 2, 0);
            x.answer(i, 0, marks[i]);
        }
        return x;
    }

    /** Paper 0 has questions 0 and 1, paper 1 has 0 and 2: two marks for each of four pupils. */
    private static ExamScales sharedAndOwn(int... marks) {
        ExamScales x = new ExamScales();
        for (int q = 0; q < 3; q++) {
            x.question(School.PLAIN, 10, 0);
        }
        x.paper();
        x.put(0, 0);
        x.put(0, 1);
        x.paper();
        x.put(1, 0);
        x.put(1, 2);
        for (int i = 0; i < 4; i++) {
            x.pupil(i / 2, 0);
            x.row(i, School.tape(marks[2 * i], marks[2 * i + 1]));
        }
        return x;
    }

    private static void scaleWithoutDistance() {
        ExamScales flatShared = sharedAndOwn(3, 1, 3, 5, 2, 0, 6, 1);
        scaleIs("p's SHARED SUMS are one value: 3; 9/2 + (3 - 4) * 5/4", flatShared, of(0, 1, 7), 13, 4);
        due.is("22: and not the other way round", flatShared.scale(1, 0, 7, 0), NO);
        ExamScales flatTotals = sharedAndOwn(3, 1, 4, 5, 2, 5, 6, 1);
        scaleIs("q's TOTALS are one value", flatTotals, of(0, 1, 9), 7, 1);
        due.is("22: nor from q", flatTotals.scale(1, 0, 9, 0), NO);
    }

    private static void scaleIsNotThere() {
        due.is("22: AWAY of p's TOTALS is 0", twoOfOneQuestion(4, 4, 1, 5).scale(0, 1, 4, 0), NO);
        due.is("22: AWAY of q's SHARED SUMS is 0", twoOfOneQuestion(1, 5, 4, 4).scale(0, 1, 4, 0), NO);
        due.is("22: nothing is SHARED", struck(twoOfOneQuestion(1, 5, 1, 5)).scale(0, 1, 4, 0), NO);
        ExamScales empty = twoOfOneQuestion(1, 5, 1, 5);
        due.is("22: q's GROUP is empty", empty.scale(0, 2, 4, 0), NO);
        due.is("22: p's GROUP is empty", empty.scale(2, 0, 4, 1), NO);
        Supplier<ExamScales> maker = School::answered;
        for (int paper : NO_PAPERS) {
            due.refused("22: no paper " + paper, maker, x -> x.scale(paper, 0, 4, 0), NO);
            due.refused("22: no other paper " + paper, maker, x -> x.scale(0, paper, 4, 0), NO);
            due.refused("22: none of both " + paper, maker, x -> x.scale(paper, paper, 4, 0), NO);
        }
        due.refused("22: from a paper to itself", maker, x -> x.scale(0, 0, 4, 0), NO);
        for (int t : new int[] {-1, 121, MIN, MAX}) {
            due.refused("22: t " + t, maker, x -> x.scale(0, 1, t, 0), NO);
        }
        for (int what : new int[] {-1, 2, MIN, MAX}) {
            due.refused("22: what " + what, maker, x -> x.scale(0, 1, 4, what), NO);
        }
    }

    private static ExamScales struck(ExamScales x) {
        x.strike(0, 1);
        return x;
    }

    private static void rank() {
        ExamScales x = School.answered();
        int[][] ranks = {{MIN, 0}, {-1, 0}, {1, 0}, {2, 1}, {3, 2}, {7, 2}, {8, 4}, {9, 6}, {121, 6}, {MAX, 6}};
        for (int[] r : ranks) {
            due.is("23: of " + r[0] + " in 8 2 8", x.rank(0, r[0]), r[1]);
        }
        due.is("23: in 6 5", x.rank(1, 6), 3);
        x.strike(0, 1);
        due.is("23: in 4 0 3", x.rank(0, 3), 3);
        due.is("23: all have 0", School.pupils().rank(0, 0), 3);
        due.refused("23: an empty GROUP", School::papers, y -> y.rank(0, 1), NONE);
        for (int paper : NO_PAPERS) {
            for (int v : new int[] {MIN, -1, 1, MAX}) {
                due.refused("23: no paper " + paper + ", v " + v, School::answered, y -> y.rank(paper, v), NONE);
            }
        }
    }

    private static void like() {
        ExamScales x = School.answered();
        due.is("24: rank 2 of 3 needs 4 by 3", x.like(0, 1, 7), 6);
        due.is("24: rank 1 of 3 needs 2 by 3", x.like(0, 1, 2), 5);
        due.is("24: rank 0: the least", x.like(1, 0, 0), 2);
        due.is("24: rank 1 of 2 needs 3 by 2", x.like(1, 0, 5), 8);
        due.is("24: none: the greatest", x.like(0, 1, 120), 6);
        due.is("24: none: the greatest, other paper", x.like(1, 0, 7), 8);
        due.is("24: in its own GROUP", x.like(0, 0, 3), 8);
        ExamScales same = twoOfOneQuestion(4, 1, 7, 3);
        due.is("24: as much is not less", same.like(0, 1, 1), 3);
        due.is("24: as much is not less, the greater one", same.like(0, 1, 4), 7);
        due.is("24: t need not be there", same.like(0, 1, 2), 7);
        due.is("24: TOTALS follow", struck(same).like(0, 1, 4), 0);
    }

    private static void likeRefused() {
        for (int paper : NO_PAPERS) {
            due.refused("24: no paper " + paper, School::answered, x -> x.like(paper, 0, 1), NONE);
            due.refused("24: no other paper " + paper, School::answered, x -> x.like(0, paper, 1), NONE);
            due.refused("24: none of both " + paper, School::answered, x -> x.like(paper, paper, 1), NONE);
        }
        for (int t : new int[] {-1, 121, MIN, MAX}) {
            due.refused("24: t " + t, School::answered, x -> x.like(0, 1, t), NONE);
        }
        Supplier<ExamScales> maker = () -> twoOfOneQuestion(4, 1, 7, 3);
        due.refused("24: p's GROUP is empty", maker, x -> x.like(2, 0, 1), NONE);
        due.refused("24: q's GROUP is empty", maker, x -> x.like(0, 2, 1), NONE);
    }
}
