/** Promises 25 to 31. */
public final class CutsTest {
    private static final int NONE = ExamScales.NONE, BAD = ExamScales.BAD;
    private static final long NO = ExamScales.NO;
    private static final int MIN = Integer.MIN_VALUE, MAX = Integer.MAX_VALUE;
    private static final int[] NO_PAPERS = {-1, 2, 8, MIN, MAX};
    private static final int[] NO_PUPILS = {-1, 5, 60, MIN, MAX};
    private static final Due due = new Due();

    public static void main(String[] args) {
        judge();
        judgeRefused();
        cut();
        cutOfManyJudges();
        passes();
        border();
        alike();
        pair();
        pairRefused();
        count();
        due.end();
    }

    private static void judge() {
        ExamScales x = School.papers();
        due.is("25: nothing at first", x.judge(0, 0, 0, 3), NONE);
        due.is("25: what it had told", x.judge(0, 0, 0, 5), 3);
        due.is("25: another judge", x.judge(7, 0, 0, 0), NONE);
        due.is("25: another question", x.judge(0, 0, 1, 3), NONE);
        due.is("25: the same question of another paper", x.judge(0, 1, 0, 1), NONE);
        due.is("25: MOST was told", x.judge(0, 0, 0, -1), 5);
        due.is("25: nothing any more", x.judge(0, 0, 0, -1), NONE);
        due.is("25: 0 was told", x.judge(7, 0, 0, 1), 0);
        due.is("25: STEPS are told by MARKS", x.judge(3, 1, 2, 4), NONE);
        due.is("25: a TRIAL", x.judge(3, 0, 3, 2), NONE);
        due.is("25: the other paper's word is as it was", x.judge(0, 1, 0, -1), 1);
    }

    private static void judgeRefused() {
        for (int j : new int[] {-1, 8, MIN, MAX}) {
            due.refused("25: no judge " + j, School::judged, x -> x.judge(j, 0, 0, 1), NONE);
            due.refused("25: no judge ahead of BAD", School::judged, x -> x.judge(j, 0, 0, 6), NONE);
        }
        for (int paper : NO_PAPERS) {
            due.refused("25: no paper " + paper, School::judged, x -> x.judge(0, paper, 0, 1), NONE);
            due.refused("25: no paper ahead of BAD", School::judged, x -> x.judge(0, paper, 0, -2), NONE);
        }
        for (int q : new int[] {-1, 2, 5, 30, 32, MIN, MAX}) {
            due.refused("25: not of the paper " + q, School::judged, x -> x.judge(0, 0, q, 1), NONE);
            due.refused("25: not of the paper ahead of BAD", School::judged, x -> x.judge(0, 0, q, 99), NONE);
        }
        for (int v : new int[] {-2, 6, MIN, MAX}) {
            due.refused("25: v " + v, School::judged, x -> x.judge(0, 0, 0, v), BAD);
        }
        due.refused("25: nothing any more of what was not told", School::judged, x -> x.judge(2, 0, 0, -1), NONE);
        due.refused("25: neither judge nor paper nor question", School::judged, x -> x.judge(8, 2, 5, -2), NONE);
        due.refused("25: above MOST of STEPS", School::judged, x -> x.judge(0, 1, 2, 5), BAD);
        due.refused("25: above MOST of a CHOICE", School::judged, x -> x.judge(0, 0, 1, 4), BAD);
    }

    private static void cutIs(String what, ExamScales x, int paper, long above, long below) {
        due.is("26: " + what + ", above", x.cut(paper, 0), above);
        due.is("26: " + what + ", below", x.cut(paper, 1), below);
    }

    private static void cut() {
        ExamScales x = School.judged();
        cutIs("7/2 + 2", x, 0, 11, 2);
        cutIs("nothing was told", x, 1, 0, 1);
        x.judge(5, 0, 0, 0);
        cutIs("0 is told, too: 7/3 + 2", x, 0, 13, 3);
        x.judge(1, 0, 0, -1);
        cutIs("told no more: 3/2 + 2", x, 0, 7, 2);
        x.judge(2, 0, 3, 2);
        cutIs("a TRIAL does not count", x, 0, 7, 2);
        x.strike(0, 1);
        cutIs("nor does a STRUCK one", x, 0, 2, 1);
        x.strike(0, 0);
        x.judge(6, 1, 2, 0);
        cutIs("only 0 was told", x, 1, 0, 1);
        for (int paper : NO_PAPERS) {
            due.refused("26: no paper " + paper, School::judged, y -> y.cut(paper, 0), NO);
            due.refused("26: no paper " + paper + ", below", School::judged, y -> y.cut(paper, 1), NO);
        }
        for (int what : new int[] {-1, 2, MIN, MAX}) {
            due.refused("26: what " + what, School::judged, y -> y.cut(0, what), NO);
        }
    }

    private static void cutOfManyJudges() {
        ExamScales x = School.plain(3, 2);
        int[] judges = {5, 7, 8};
        for (int q = 0; q < 3; q++) {
            for (int j = 0; j < judges[q]; j++) {
                x.judge(j, 1, q, j == 0 ? 1 : 0);
            }
        }
        cutIs("1/5 + 1/7 + 1/8", x, 1, 131, 280);
        cutIs("of the other paper nothing", x, 0, 0, 1);
        ExamScales most = School.plain(12, 8);
        for (int q = 0; q < 12; q++) {
            for (int j = 0; j < 8; j++) {
                most.judge(j, 7, q, 10);
            }
        }
        cutIs("the greatest one", most, 7, 120, 1);
    }

    /** The CUT of paper 0 is 8, as two of the TOTALS 8 2 8. */
    private static ExamScales cutAtEight() {
        ExamScales x = School.answered();
        x.judge(0, 0, 0, 5);
        x.judge(0, 0, 1, 3);
        return x;
    }

    private static void passes() {
        ExamScales x = School.judged();
        due.is("27: 8 and 11/2", x.passes(0), 1);
        due.is("27: 2 and 11/2", x.passes(1), 0);
        due.is("27: nothing was told", x.passes(4), 1);
        due.is("27: nothing was told, 0", School.pupils().passes(0), 1);
        ExamScales eight = cutAtEight();
        due.is("27: not below", eight.passes(0), 1);
        eight.judge(1, 0, 4, 1);
        for (int j = 2; j < 8; j++) {
            eight.judge(j, 0, 4, 0);
        }
        eight.judge(0, 0, 4, 0);
        due.is("27: 8 and 8 + 1/8", eight.passes(0), 0);
        eight.strike(4, 1);
        due.is("27: 7 and 8", eight.passes(0), 0);
        due.is("27: 8 and 8", eight.passes(2), 1);
        eight.key(1, 1);
        due.is("27: with another KEY", eight.passes(2), 0);
        for (int pupil : NO_PUPILS) {
            due.refused("27: no pupil " + pupil, School::judged, y -> y.passes(pupil), NONE);
        }
    }

    private static void borderIs(String what, ExamScales x, int[][] counts) {
        for (int[] c : counts) {
            due.is("28: " + what + ", d " + c[0], x.border(0, c[0]), c[1]);
        }
    }

    private static void border() {
        borderIs("8 2 8 and 11/2", School.judged(), new int[][] {{0, 0}, {2, 0}, {3, 2}, {4, 3}, {MAX, 3}});
        borderIs("8 2 8 and 8", cutAtEight(), new int[][] {{0, 2}, {5, 2}, {6, 3}, {MAX, 3}});
        borderIs("an empty GROUP", School.papers(), new int[][] {{0, 0}, {MAX, 0}});
        due.is("28: 6 5 and 0", School.judged().border(1, 5), 1);
        for (int paper : NO_PAPERS) {
            due.refused("28: no paper " + paper, School::judged, y -> y.border(paper, 1), NONE);
            due.refused("28: NONE ahead of BAD", School::judged, y -> y.border(paper, -1), NONE);
        }
        for (int d : new int[] {-1, MIN}) {
            due.refused("28: d " + d, School::judged, y -> y.border(0, d), BAD);
        }
    }

    private static void alike() {
        ExamScales x = School.pupils();
        due.is("29: GAPS are no ANSWERS", x.alike(0, 1), 0);
        x.row(0, School.tape(4, 3, 1, 2));
        x.row(1, School.tape(4, 3, 1, 2));
        due.is("29: all four, a TRIAL, too", x.alike(0, 1), 4);
        due.is("29: the other way round", x.alike(1, 0), 4);
        x.strike(0, 1);
        due.is("29: a STRUCK one, too", x.alike(0, 1), 4);
        x.key(1, 8);
        due.is("29: option 3 is of the KEY", x.alike(0, 1), 3);
        x.answer(1, 1, 4);
        x.answer(0, 1, 5);
        due.is("29: both wrong, but unlike", x.alike(0, 1), 3);
        x.answer(0, 4, 4);
        x.answer(1, 4, 4);
        due.is("29: both have MOST", x.alike(0, 1), 2);
        x.gap(1, 0);
        due.is("29: one has a GAP", x.alike(0, 1), 1);
        x.answer(0, 0, 0);
        due.is("29: 0 and a GAP", x.alike(0, 1), 1);
        x.answer(3, 2, 5);
        x.answer(4, 2, 9);
        due.is("29: the same MARK, other steps", x.alike(3, 4), 0);
        for (int pupil : NO_PUPILS) {
            due.refused("29: no pupil " + pupil, School::answered, y -> y.alike(pupil, 0), NONE);
            due.refused("29: no other pupil " + pupil, School::answered, y -> y.alike(0, pupil), NONE);
            due.refused("29: NONE ahead of BAD", School::answered, y -> y.alike(pupil, pupil), NONE);
        }
        due.refused("29: they are one", School::answered, y -> y.alike(2, 2), BAD);
        due.refused("29: of two papers", School::answered, y -> y.alike(2, 3), BAD);
    }

    /** Pupils 0 2 3 5 of paper 0, 1 and 4 of paper 1: 0 and 3 have two alike, 0 and 5, 3 and 5, 1 and 4 one. */
    private static ExamScales somePairs() {
        ExamScales x = School.plain(3, 2);
        for (int paper : new int[] {0, 1, 0, 0, 1, 0}) {
            x.pupil(paper, 0);
        }
        x.row(0, School.tape(1, 2, 3));
        x.row(1, School.tape(1, 2, 3));
        x.row(2, School.tape(10, 10, 10));
        x.row(3, School.tape(1, 2, 4));
        x.row(4, School.tape(9, 2, 9));
        x.row(5, School.tape(1, 9, 9));
        return x;
    }

    private static void pairsAre(String what, int paper, int m, int... pairs) {
        ExamScales x = somePairs();
        for (int i = 0; i < pairs.length; i++) {
            due.is("30: " + what + ", " + i, x.pair(paper, m, i), pairs[i]);
        }
        due.is("30: " + what + ", no more", x.pair(paper, m, pairs.length), NONE);
    }

    private static void pair() {
        pairsAre("for 1", 0, 1, 3, 5, 64 * 3 + 5);
        pairsAre("for 2", 0, 2, 3);
        pairsAre("for 3", 0, 3);
        pairsAre("for very many", 0, MAX);
        pairsAre("of the other paper", 1, 1, 64 + 4);
        ExamScales last = School.plain(1, 2);
        for (int i = 0; i < 60; i++) {
            last.pupil(i < 58 ? 0 : 1, 0);
        }
        last.answer(58, 0, 0);
        last.answer(59, 0, 0);
        due.is("30: the last two", last.pair(1, 1, 0), 64 * 58 + 59);
    }

    private static void pairRefused() {
        for (int paper : NO_PAPERS) {
            due.refused("30: no paper " + paper, CutsTest::somePairs, x -> x.pair(paper, 1, 0), NONE);
            due.refused("30: no paper ahead of BAD", CutsTest::somePairs, x -> x.pair(paper, 0, 0), NONE);
        }
        for (int i : new int[] {-1, 3, 64, MIN, MAX}) {
            due.refused("30: no number " + i, CutsTest::somePairs, x -> x.pair(0, 1, i), NONE);
        }
        for (int m : new int[] {0, -1, MIN}) {
            due.refused("30: m " + m, CutsTest::somePairs, x -> x.pair(0, m, 0), BAD);
            due.refused("30: m " + m + ", behind the last two", CutsTest::somePairs, x -> x.pair(0, m, 3), BAD);
            for (int i : new int[] {-1, -2, MIN}) {
                due.refused("30: NONE ahead of BAD, m " + m + ", " + i, CutsTest::somePairs, x -> x.pair(0, m, i), NONE);
            }
        }
    }

    private static void count() {
        ExamScales x = School.judged();
        int[] counts = {5, 2, 5, 13, 0, 4};
        for (int what = 0; what <= 5; what++) {
            due.is("31: what " + what, x.count(what), counts[what]);
        }
        x.strike(1, 1);
        x.strike(3, 1);
        x.gap(0, 0);
        due.is("31: one ANSWER less", x.count(3), 12);
        due.is("31: two STRUCK", x.count(4), 2);
        due.is("31: 1 2 5 and 11/2, and two that PASS", x.count(5), 2);
        x.answer(0, 0, 0);
        due.is("31: 0 is an ANSWER", x.count(3), 13);
        x.answer(0, 0, 5);
        due.is("31: 6 2 5 and 11/2", x.count(5), 3);
        for (int what : new int[] {-1, 6, MIN, MAX}) {
            due.refused("31: what " + what, School::judged, y -> y.count(what), NONE);
        }
    }
}
