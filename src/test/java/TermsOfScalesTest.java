/** The sentences of "Terms", part 2, that name a boundary: groups, scales, ranks. Each method quotes its own. */
public final class TermsOfScalesTest {
    private static final int NONE = ExamScales.NONE, BAD = ExamScales.BAD;
    private static final long NO = ExamScales.NO;
    private static final int MIN = Integer.MIN_VALUE, MAX = Integer.MAX_VALUE;
    private static final Due due = new Due();

    public static void main(String[] args) {
        sharedOnes();
        sharedSum();
        groupOfNone();
        groupOfOne();
        groupOfMany();
        oneIsNotAnother();
        scaleNeedsPupils();
        scaleNeedsShared();
        scaleNeedsAway();
        scaleOfLeastAway();
        scaleOfEachTotal();
        scaleAndBack();
        scaleBelowZero();
        rankOfOne();
        rankOfSixty();
        likeOfOne();
        likeIsTheLeast();
        likeIsTheGreatest();
        likeOfEachTotal();
        due.end();
    }

    /** Papers 0 and 1 of the same questions, PLAIN ones of 10, and paper 2 without questions. */
    private static ExamScales papersOf(int questions) {
        ExamScales x = School.plain(questions, 2);
        x.paper();
        return x;
    }

    /** Of a paper with one question or two: their MARKS. */
    private static void pupilWith(ExamScales x, int paper, int... marks) {
        x.row(x.pupil(paper, 0), School.tape(marks));
    }

    /** "The SHARED questions of two PAPERS: those in both that count." */
    private static void sharedOnes() {
        for (int n = 0; n <= 12; n++) {
            ExamScales x = School.plain(24, 0);
            x.paper();
            x.paper();
            for (int i = 0; i < 12; i++) {
                x.put(0, i);
                x.put(1, 23 - n - i);
            }
            due.is("19: " + n + " in both", x.shared(0, 1), n);
            due.is("19: " + n + " in both, the other way round", x.shared(1, 0), n);
            x.strike(0, 1);
            due.is("19: one of paper 0 is STRUCK", x.shared(0, 1), n == 12 ? 11 : n);
            x.strike(11, 1);
            due.is("19: the last of paper 0 is STRUCK", x.shared(0, 1), Math.max(n == 12 ? 10 : n - 1, 0));
            x.strike(11, 0);
            x.strike(0, 0);
            due.is("19: not any more", x.shared(0, 1), n);
        }
        ExamScales x = papersOf(3);
        due.is("19: with one without questions", x.shared(0, 2), 0);
        x.paper();
        due.is("19: both without questions", x.shared(2, 3), 0);
    }

    /** "The SHARED SUM of a PUPIL for another PAPER: its MARKS of these." */
    private static void sharedSum() {
        ExamScales x = papersOf(12);
        x.pupil(0, 0);
        due.is("20: all GAPS", x.sum(0, 1), 0);
        for (int q = 0; q < 12; q++) {
            x.answer(0, q, 10);
        }
        due.is("20: the greatest one", x.sum(0, 1), 120);
        due.is("20: nothing is SHARED", x.sum(0, 2), 0);
        for (int q = 0; q < 12; q++) {
            x.strike(q, 1);
            due.is("20: " + (q + 1) + " STRUCK", x.sum(0, 1), 110 - 10 * q);
        }
    }

    private static void groupIs(String what, ExamScales x, int[] pq, long n, long sum, long away) {
        due.is("21: " + what + ", n", x.group(pq[0], pq[1], 0), n);
        due.is("21: " + what + ", SUM", x.group(pq[0], pq[1], 1), sum);
        due.is("21: " + what + ", AWAY", x.group(pq[0], pq[1], 2), away);
    }

    private static int[] of(int p, int q) {
        return new int[] {p, q};
    }

    /** "A GROUP are the PUPILS of a PAPER": there may be none. */
    private static void groupOfNone() {
        ExamScales x = papersOf(2);
        for (int p = 0; p < 3; p++) {
            for (int q = 0; q < 3; q++) {
                groupIs("no PUPIL", x, of(p, q), 0, 0, 0);
            }
        }
        pupilWith(x, 1, 3, 4);
        groupIs("a PUPIL of another PAPER", x, of(0, 0), 0, 0, 0);
        groupIs("a PUPIL of another PAPER, SHARED SUMS", x, of(0, 1), 0, 0, 0);
        due.refused("23: an empty GROUP", () -> papersOf(2), y -> y.rank(0, 0), NONE);
        due.is("28: an empty GROUP", x.border(0, MAX), 0);
        due.is("30: an empty GROUP", x.pair(0, 1, 0), NONE);
        due.is("26: an empty GROUP, above", x.cut(0, 0), 0);
        due.is("26: an empty GROUP, below", x.cut(0, 1), 1);
    }

    /** "Of a row of n values ..: SUM; .. AWAY: the sum of how far n times each value is from SUM": of one it is 0. */
    private static void groupOfOne() {
        for (int v : new int[] {0, 1, 10}) {
            ExamScales x = papersOf(2);
            pupilWith(x, 0, v, 10);
            groupIs("one PUPIL", x, of(0, 0), 1, v + 10, 0);
            groupIs("one PUPIL, SHARED SUMS", x, of(0, 1), 1, v + 10, 0);
            groupIs("one PUPIL, nothing is SHARED", x, of(0, 2), 1, 0, 0);
        }
    }

    /** ".. how far": below SUM as well as above it. */
    private static void groupOfMany() {
        ExamScales x = papersOf(1);
        pupilWith(x, 0, 0);
        pupilWith(x, 0, 0);
        groupIs("0 0", x, of(0, 0), 2, 0, 0);
        pupilWith(x, 0, 1);
        groupIs("0 0 1: 1 + 1 + 2", x, of(0, 0), 3, 1, 4);
        pupilWith(x, 0, 10);
        groupIs("0 0 1 10: 11 + 11 + 7 + 29", x, of(0, 0), 4, 11, 58);
        for (int pupil = 4; pupil < 60; pupil++) {
            pupilWith(x, 0, 10);
        }
        groupIs("60 of them", x, of(0, 1), 60, 571, 571 + 571 + 511 + 57 * 29);
        x.strike(0, 1);
        groupIs("60 times 0", x, of(0, 0), 60, 0, 0);
    }

    /** "THE SCALE from PAPER p to PAPER q (another one)"; "for another PAPER". */
    private static void oneIsNotAnother() {
        for (int paper = 0; paper < 3; paper++) {
            int p = paper;
            due.refused("22: from " + p + " to itself", TermsOfScalesTest::twoScaled, x -> x.scale(p, p, 4, 0), NO);
            due.refused("19: " + p + " and itself", TermsOfScalesTest::twoScaled, x -> x.shared(p, p), BAD);
        }
        for (int pupil = 0; pupil < 4; pupil++) {
            int n = pupil;
            due.refused("20: its own, " + n, TermsOfScalesTest::twoScaled, x -> x.sum(n, n / 2), BAD);
        }
    }

    /** Papers 0 and 1 share one question; the MARKS are 1 and 5, 2 and 8. */
    private static ExamScales twoScaled() {
        ExamScales x = papersOf(1);
        pupilWith(x, 0, 1);
        pupilWith(x, 0, 5);
        pupilWith(x, 1, 2);
        pupilWith(x, 1, 8);
        return x;
    }

    private static void isThere(String what, ExamScales x, int p, int q, boolean is) {
        due.is("22: " + what + ", above", x.scale(p, q, 4, 0) == NO ? 0 : 1, is ? 1 : 0);
        due.is("22: " + what + ", below", x.scale(p, q, 4, 1) == NO ? 0 : 1, is ? 1 : 0);
    }

    /** "It is there if both GROUPS have a PUPIL". */
    private static void scaleNeedsPupils() {
        ExamScales x = papersOf(1);
        isThere("no PUPIL at all", x, 0, 1, false);
        pupilWith(x, 0, 1);
        pupilWith(x, 0, 5);
        isThere("none of q", x, 0, 1, false);
        isThere("none of p", x, 1, 0, false);
        pupilWith(x, 1, 2);
        isThere("one of q alone, AWAY is 0", x, 0, 1, false);
        pupilWith(x, 1, 8);
        isThere("two of both", x, 0, 1, true);
        isThere("two of both, the other way round", x, 1, 0, true);
    }

    /** ".. there is a SHARED question": one is enough, and it must count. */
    private static void scaleNeedsShared() {
        ExamScales x = twoScaled();
        isThere("one SHARED question", x, 0, 1, true);
        x.strike(0, 1);
        isThere("it is STRUCK", x, 0, 1, false);
        x.strike(0, 0);
        isThere("it is not any more", x, 0, 1, true);
        ExamScales trial = new ExamScales();
        trial.question(School.TRIAL, 10, 0);
        trial.question(School.PLAIN, 10, 0);
        trial.question(School.PLAIN, 10, 0);
        for (int paper = 0; paper < 2; paper++) {
            trial.paper();
            trial.put(paper, 0);
            trial.put(paper, 1 + paper);
            pupilWith(trial, paper, 1, 1);
            pupilWith(trial, paper, 5, 5);
        }
        isThere("a TRIAL is all that is in both", trial, 0, 1, false);
    }

    /** Paper 0 has questions 0 and 1, paper 1 has 0 and 2: MARKS of the SHARED one and of its own, for two of each. */
    private static ExamScales sharedAndOwn(int... marks) {
        ExamScales x = School.plain(3, 0);
        for (int paper = 0; paper < 2; paper++) {
            x.paper();
            x.put(paper, 0);
            x.put(paper, 1 + paper);
            pupilWith(x, paper, marks[4 * paper], marks[4 * paper + 1]);
            pupilWith(x, paper, marks[4 * paper + 2], marks[4 * paper + 3]);
        }
        return x;
    }

    /** ".. and AWAY of p's TOTALS and of q's SHARED SUMS is above 0": of the other two it may be 0. */
    private static void scaleNeedsAway() {
        isThere("all AWAYS above 0", sharedAndOwn(1, 1, 2, 2, 3, 3, 4, 4), 0, 1, true);
        isThere("p's TOTALS 3 3", sharedAndOwn(1, 2, 2, 1, 3, 3, 4, 4), 0, 1, false);
        isThere("q's SHARED SUMS 3 3", sharedAndOwn(1, 1, 2, 2, 3, 3, 3, 4), 0, 1, false);
        isThere("p's SHARED SUMS 1 1", sharedAndOwn(1, 1, 1, 2, 3, 3, 4, 4), 0, 1, true);
        isThere("q's TOTALS 6 6", sharedAndOwn(1, 1, 2, 2, 3, 3, 4, 2), 0, 1, true);
        ExamScales flat = sharedAndOwn(1, 1, 1, 2, 3, 3, 4, 2);
        due.is("22: p's SHARED SUMS and q's TOTALS are one value each: MEAN', above", flat.scale(0, 1, 120, 0), 6);
        due.is("22: p's SHARED SUMS and q's TOTALS are one value each: MEAN', below", flat.scale(0, 1, 120, 1), 1);
    }

    /** "above 0": the least AWAY that can be. */
    private static void scaleOfLeastAway() {
        ExamScales x = papersOf(1);
        pupilWith(x, 0, 0);
        pupilWith(x, 0, 1);
        pupilWith(x, 1, 9);
        pupilWith(x, 1, 10);
        due.is("21: the least AWAY", x.group(0, 0, 2), 2);
        due.is("22: 7, above", x.scale(0, 1, 7, 0), 7);
        due.is("22: 7, below", x.scale(0, 1, 7, 1), 1);
    }

    /** "NO: t is not 0 .. 120": whether a PUPIL has it or not. */
    private static void scaleOfEachTotal() {
        for (int t = 0; t <= 120; t++) {
            ExamScales x = twoScaled();
            due.is("22: " + t + ", above", x.scale(0, 1, t, 0), t);
            due.is("22: " + t + ", below", x.scale(1, 0, t, 1), 1);
        }
        for (int t : new int[] {MIN, MIN + 1, -120, -1, 121, 122, MAX}) {
            for (int what = 0; what < 2; what++) {
                int w = what;
                due.refused("22: t " + t + ", what " + w, TermsOfScalesTest::twoScaled, x -> x.scale(0, 1, t, w), NO);
            }
        }
    }

    /** "(From q to p it is the other way round.)" */
    private static void scaleAndBack() {
        ExamScales x = sharedAndOwn(1, 2, 3, 6, 2, 2, 4, 8);
        due.is("22: 2 + (t - 6) / 3; 8 + 4 (s - 3), above", x.scale(0, 1, 9, 0), 8);
        due.is("22: 2 + (t - 6) / 3; 8 + 4 (s - 3), below", x.scale(0, 1, 9, 1), 1);
        due.is("22: and back, above", x.scale(1, 0, 8, 0), 9);
        due.is("22: and back, below", x.scale(1, 0, 8, 1), 1);
        due.is("22: a third of 4, above", x.scale(0, 1, 10, 0), 28);
        due.is("22: a third of 4, below", x.scale(0, 1, 10, 1), 3);
    }

    /** "A fraction is told as what is above, and below its line, .. that below above 0 (0 is 0 by 1)." */
    private static void scaleBelowZero() {
        ExamScales x = sharedAndOwn(1, 2, 3, 6, 2, 2, 4, 8);
        due.is("22: 0, above", x.scale(0, 1, 3, 0), 0);
        due.is("22: 0, below", x.scale(0, 1, 3, 1), 1);
        due.is("22: below 0, above", x.scale(0, 1, 2, 0), -4);
        due.is("22: below 0, below", x.scale(0, 1, 2, 1), 3);
        due.is("22: farthest below 0, above", x.scale(0, 1, 0, 0), -4);
        due.is("22: farthest below 0, below", x.scale(0, 1, 0, 1), 1);
    }

    /** "RANK: of a value v in a GROUP, by TOTALS: twice how many are below and how many are v, together." */
    private static void rankOfOne() {
        ExamScales x = papersOf(1);
        pupilWith(x, 0, 5);
        int[][] ranks = {{MIN, 0}, {-1, 0}, {4, 0}, {5, 1}, {6, 2}, {121, 2}, {MAX, 2}};
        for (int[] r : ranks) {
            due.is("23: of " + r[0] + " in 5", x.rank(0, r[0]), r[1]);
        }
        due.is("23: no such paper", x.rank(3, 5), NONE);
        due.is("23: empty", x.rank(1, 5), NONE);
    }

    private static void rankOfSixty() {
        ExamScales x = papersOf(1);
        for (int pupil = 0; pupil < 60; pupil++) {
            pupilWith(x, 0, pupil / 6);
        }
        for (int v = 0; v < 10; v++) {
            due.is("23: " + v + " of 0 .. 9, six each", x.rank(0, v), 12 * v + 6);
        }
        due.is("23: above all", x.rank(0, 10), 120);
        due.is("23: below all", x.rank(0, -1), 0);
    }

    /** "THE LIKE of a TOTAL t of p in q's GROUP": of one there is but one. */
    private static void likeOfOne() {
        ExamScales x = papersOf(1);
        pupilWith(x, 0, 5);
        pupilWith(x, 1, 7);
        for (int t : new int[] {0, 4, 5, 6, 120}) {
            due.is("24: " + t + " of 5 in 7", x.like(0, 1, t), 7);
        }
        due.is("24: p's GROUP is empty", x.like(2, 1, 5), NONE);
        due.is("24: q's GROUP is empty", x.like(0, 2, 5), NONE);
        due.is("24: both are empty", x.like(2, 2, 5), NONE);
    }

    /** "the least TOTAL there of which the RANK times n(p) is not less than the RANK of t .. times n(q)". */
    private static void likeIsTheLeast() {
        ExamScales x = papersOf(1);
        pupilWith(x, 0, 2);
        pupilWith(x, 0, 4);
        pupilWith(x, 0, 6);
        for (int mark : new int[] {9, 1, 5, 3, 7, 8}) {
            pupilWith(x, 1, mark);
        }
        due.is("24: 0 of 6, the least", x.like(0, 1, 0), 1);
        due.is("24: 1 of 6 is 2 of 12: 3 of 12", x.like(0, 1, 2), 3);
        due.is("24: 2 of 6 is 4 of 12: 5 of 12", x.like(0, 1, 3), 5);
        due.is("24: 5 of 6 is 10 of 12: 11 of 12", x.like(0, 1, 6), 9);
        due.is("24: 1 of 12: 1 of 6", x.like(1, 0, 1), 2);
        due.is("24: 3 of 12: 3 of 6", x.like(1, 0, 3), 4);
        pupilWith(x, 1, 3);
        pupilWith(x, 1, 3);
        pupilWith(x, 1, 3);
        due.is("24: 1 of 6 is 3 of 18: 2 + 4 of 18", x.like(0, 1, 2), 3);
        due.is("24: 2 of 6 is 6 of 18: not less", x.like(0, 1, 3), 3);
        due.is("24: 3 of 6 is 9 of 18: 11 of 18", x.like(0, 1, 4), 5);
    }

    /** ".. the greatest one if there is none." */
    private static void likeIsTheGreatest() {
        ExamScales x = papersOf(1);
        pupilWith(x, 0, 2);
        pupilWith(x, 0, 4);
        pupilWith(x, 1, 9);
        pupilWith(x, 1, 10);
        pupilWith(x, 1, 0);
        due.is("24: 3 of 4 is 9 of 12: 5 of 6 is 10 of 12", x.like(0, 1, 4), 10);
        due.is("24: 4 of 4: none", x.like(0, 1, 5), 10);
        due.is("24: 6 of 6: none, the other way round", x.like(1, 0, 11), 4);
        due.is("24: in its own GROUP: none", x.like(1, 1, 120), 10);
    }

    /** "NONE: .. t is not 0 .. 120". */
    private static void likeOfEachTotal() {
        for (int t = 0; t <= 120; t++) {
            due.is("24: t " + t, twoScaled().like(0, 1, t), t <= 1 ? 2 : 8);
        }
        for (int t : new int[] {MIN, MIN + 1, -120, -1, 121, 122, MAX}) {
            due.refused("24: no t " + t, TermsOfScalesTest::twoScaled, x -> x.like(0, 1, t), NONE);
        }
    }
}
