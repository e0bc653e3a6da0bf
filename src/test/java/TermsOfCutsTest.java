/** The sentences of "Terms", part 3, that name a boundary: judges, cuts, leaks, likeness. Each method quotes its own. */
public final class TermsOfCutsTest {
    private static final int NONE = ExamScales.NONE, BAD = ExamScales.BAD;
    private static final int MIN = Integer.MIN_VALUE, MAX = Integer.MAX_VALUE;
    private static final Due due = new Due();

    public static void main(String[] args) {
        judges();
        whatJudgesTell();
        meanOfJudges();
        cutOfNothing();
        cutOfThoseThatCount();
        passesAtTheCut();
        borderAtTheCut();
        borderByParts();
        bars();
        leakyByMore();
        leakyWithOneOrMore();
        leakyBySteps();
        leaksOfAll();
        alikeByMOrMore();
        alikeOfOnePaper();
        alikeBelowMost();
        pairsOfSixty();
        due.end();
    }

    /** "JUDGES, 0 .. 7". */
    private static void judges() {
        ExamScales x = School.papers();
        for (int j = 0; j < 8; j++) {
            due.is("25: judge " + j + ", nothing yet", x.judge(j, 0, 0, j % 6), NONE);
        }
        for (int j = 0; j < 8; j++) {
            due.is("25: what judge " + j + " told", x.judge(j, 0, 0, -1), j % 6);
        }
        for (int j : new int[] {MIN, -1, 8, 9, MAX}) {
            for (int v : new int[] {-1, 0, 5}) {
                due.refused("25: no judge " + j + ", v " + v, School::judged, y -> y.judge(j, 0, 0, v), NONE);
            }
        }
    }

    /** "tell of a PAPER's questions what one who just passes would have (0 .. MOST)": of each KIND and MOST. */
    private static void whatJudgesTell() {
        for (int kind = 0; kind < 4; kind++) {
            for (int most = 1; most <= 10; most++) {
                ExamScales x = School.one(kind, most, School.keyFor(kind));
                String name = "25: kind " + kind + ", MOST " + most;
                due.is(name + ", 0", x.judge(0, 0, 0, 0), NONE);
                due.is(name + ", MOST", x.judge(0, 0, 0, most), 0);
                due.is(name + ", above MOST", x.judge(0, 0, 0, most + 1), BAD);
                due.is(name + ", below -1", x.judge(0, 0, 0, -2), BAD);
                due.is(name + ", -1", x.judge(0, 0, 0, -1), most);
                due.is(name + ", -1 again", x.judge(0, 0, 0, -1), NONE);
                due.is(name + ", still nothing", x.judge(0, 0, 0, 0), NONE);
            }
        }
    }

    private static void cutIs(String what, ExamScales x, int paper, long above, long below) {
        due.is("26: " + what + ", above", x.cut(paper, 0), above);
        due.is("26: " + what + ", below", x.cut(paper, 1), below);
    }

    /** "the sum of the means of what was told, a fraction": of one judge to all eight, 0 told, too. */
    private static void meanOfJudges() {
        ExamScales x = School.plain(1, 1);
        x.judge(7, 0, 0, 1);
        for (int others = 0; others < 8; others++) {
            cutIs("1 and " + others + " times 0", x, 0, 1, others + 1);
            x.judge(others, 0, 0, others == 7 ? 1 : 0);
        }
        for (int j = 0; j < 8; j++) {
            x.judge(j, 0, 0, 10);
        }
        cutIs("eight times 10", x, 0, 10, 1);
        for (int j = 0; j < 7; j++) {
            x.judge(j, 0, 0, -1);
        }
        cutIs("one of them is left", x, 0, 10, 1);
        x.judge(7, 0, 0, -1);
        cutIs("none of them is left", x, 0, 0, 1);
    }

    /** "(0 by 1: nothing was told)". */
    private static void cutOfNothing() {
        cutIs("nothing was told", School.answered(), 0, 0, 1);
        ExamScales empty = new ExamScales();
        empty.paper();
        cutIs("without questions", empty, 0, 0, 1);
        empty.pupil(0, 0);
        due.is("27: without questions", empty.passes(0), 1);
        due.is("28: without questions", empty.border(0, 0), 1);
        ExamScales x = School.pupils();
        due.is("27: nothing was told, all GAPS", x.passes(0), 1);
        due.is("28: nothing was told, all GAPS", x.border(0, 0), 3);
        x.judge(0, 0, 0, 0);
        cutIs("0 was told", x, 0, 0, 1);
        due.is("27: 0 was told", x.passes(0), 1);
        x.judge(0, 0, 0, 1);
        due.is("27: 1 was told", x.passes(0), 0);
        x.judge(0, 0, 0, -1);
        cutIs("nothing any more", x, 0, 0, 1);
        due.is("27: nothing any more", x.passes(0), 1);
        due.is("31: all PASS", x.count(5), 5);
    }

    /** "over questions that count of which a JUDGE told something": of the PAPER alone, and no other question's MOST. */
    private static void cutOfThoseThatCount() {
        ExamScales x = School.papers();
        x.judge(0, 0, 3, 2);
        cutIs("a TRIAL alone", x, 0, 0, 1);
        x.judge(0, 0, 0, 5);
        cutIs("a TRIAL and 5", x, 0, 5, 1);
        x.strike(0, 1);
        cutIs("a TRIAL and a STRUCK one", x, 0, 0, 1);
        x.strike(4, 1);
        x.strike(0, 0);
        cutIs("another one is STRUCK", x, 0, 5, 1);
        cutIs("the other paper, which has question 0, too", x, 1, 0, 1);
        x.judge(0, 1, 0, 1);
        cutIs("the other paper, 1 was told", x, 1, 1, 1);
        cutIs("this one stays", x, 0, 5, 1);
    }

    /** Pupil 0 of paper 0 has t of 20; of question 2, worth nothing to it, eight judges tell v in all. */
    private static ExamScales withCut(int t, int base, int eighths) {
        ExamScales x = School.plain(3, 1);
        x.pupil(0, 0);
        x.row(0, School.tape(Math.min(t, 10), Math.max(t - 10, 0)));
        x.judge(0, 0, 0, Math.min(base, 10));
        x.judge(0, 0, 1, Math.max(base - 10, 0));
        for (int j = 0; j < 8; j++) {
            x.judge(j, 0, 2, j == 0 ? eighths : 0);
        }
        return x;
    }

    /** "A PUPIL PASSES if its TOTAL is not below that." */
    private static void passesAtTheCut() {
        for (int t : new int[] {1, 10, 20}) {
            due.is("27: " + t + " and as much", withCut(t, t, 0).passes(0), 1);
            due.is("27: " + t + " and an eighth more", withCut(t, t, 1).passes(0), 0);
            due.is("27: " + t + " and an eighth less", withCut(t, t - 1, 7).passes(0), 1);
            due.is("31: " + t + " and as much", withCut(t, t, 0).count(5), 1);
            due.is("31: " + t + " and an eighth more", withCut(t, t, 1).count(5), 0);
        }
        due.is("27: 0 and an eighth", withCut(0, 0, 1).passes(0), 0);
        due.is("27: 0 and 0", withCut(0, 0, 0).passes(0), 1);
    }

    /** "A PUPIL is BORDER by d if its TOTAL is not farther from the CUT than d": on both sides. */
    private static void borderAtTheCut() {
        for (int d = 0; d <= 8; d++) {
            due.is("28: above by " + d, withCut(9, 9 - d, 0).border(0, d), 1);
            due.is("28: above by " + d + " and an eighth", withCut(10, 9 - d, 7).border(0, d), 0);
            due.is("28: below by " + d, withCut(9, 9 + d, 0).border(0, d), 1);
            due.is("28: below by " + d + " and an eighth", withCut(9, 9 + d, 1).border(0, d), 0);
            due.is("28: below by " + d + ", less an eighth", withCut(10, 9 + d, 7).border(0, d), d == 0 ? 0 : 1);
        }
    }

    /** "BAD: d is below 0": 0 and the greatest int are taken. */
    private static void borderByParts() {
        ExamScales x = withCut(20, 0, 1);
        due.is("28: 20 - 1/8, d 19", x.border(0, 19), 0);
        due.is("28: 20 - 1/8, d 20", x.border(0, 20), 1);
        for (int d : new int[] {21, 1 << 22, 1 << 23, 1 << 30, MAX - 1, MAX}) {
            due.is("28: d " + d, x.border(0, d), 1);
        }
        for (int d : new int[] {MIN, MIN + 1, -2, -1}) {
            due.refused("28: d " + d, () -> withCut(20, 20, 0), y -> y.border(0, d), BAD);
        }
        due.is("28: d 0, an eighth away", withCut(20, 19, 7).border(0, 0), 0);
    }

    private static void pupilWith(ExamScales x, int place, int mark) {
        x.answer(x.pupil(0, place), 0, mark);
    }

    /** "LEAKY for a bar b (1 .. 100)". */
    private static void bars() {
        ExamScales x = School.plain(1, 1);
        pupilWith(x, 0, 10);
        pupilWith(x, 1, 0);
        for (int bar = 1; bar <= 100; bar++) {
            due.is("17: bar " + bar, x.leaky(0, 0, bar), bar < 100 ? 1 : 0);
            due.is("18: bar " + bar, x.leak(bar, 0), bar < 100 ? 0 : NONE);
        }
        for (int bar : new int[] {MIN, -1, 0, 101, 102, MAX}) {
            due.is("17: no bar " + bar, x.leaky(0, 0, bar), BAD);
            due.is("18: no bar " + bar, x.leak(bar, 0), BAD);
            due.is("18: no bar " + bar + ", in a new object", new ExamScales().leak(bar, 0), BAD);
        }
    }

    /** "the first part is above the second one by more than b hundredths". */
    private static void leakyByMore() {
        for (int full = 0; full <= 10; full++) {
            ExamScales x = School.plain(1, 1);
            for (int i = 0; i < 10; i++) {
                pupilWith(x, 2, i < full ? 10 : 9);
                pupilWith(x, i % 2 * 3, i < 4 ? 10 : 0);
            }
            int above = 10 * full - 40;
            for (int bar : new int[] {1, 9, 10, 11, 19, 20, 21, 59, 60, 61}) {
                due.is("17: " + full + " and 4 of 10, bar " + bar, x.leaky(0, 2, bar), above > bar ? 1 : 0);
            }
        }
        ExamScales thirds = School.plain(1, 1);
        pupilWith(thirds, 0, 10);
        pupilWith(thirds, 0, 10);
        pupilWith(thirds, 0, 0);
        pupilWith(thirds, 1, 10);
        pupilWith(thirds, 2, 0);
        pupilWith(thirds, 3, 0);
        due.is("17: two thirds and one third, bar 33", thirds.leaky(0, 0, 33), 1);
        due.is("17: two thirds and one third, bar 34", thirds.leaky(0, 0, 34), 0);
        due.is("17: all and two fifths, bar 59", thirds.leaky(0, 1, 59), 1);
        due.is("17: all and two fifths, bar 60", thirds.leaky(0, 1, 60), 0);
    }

    /** "(both with one PUPIL or more)", "that have COME TO it". */
    private static void leakyWithOneOrMore() {
        for (int place = 0; place < 4; place++) {
            ExamScales x = School.plain(2, 1);
            due.is("17: no PUPIL", x.leaky(0, place, 1), 0);
            pupilWith(x, place, 10);
            due.is("17: one PUPIL alone", x.leaky(0, place, 1), 0);
            due.is("17: one PUPIL, asked elsewhere", x.leaky(0, 3 - place, 1), 0);
            int other = x.pupil(0, 3 - place);
            due.is("17: the other one has not COME TO it", x.leaky(0, place, 1), 0);
            x.answer(other, 1, 10);
            due.is("17: it has, with a GAP", x.leaky(0, place, 1), 1);
            x.gap(0, 0);
            due.is("17: the first one has not any more", x.leaky(0, place, 1), 0);
            x.answer(0, 1, 0);
            due.is("17: it has a GAP, too", x.leaky(0, place, 1), 0);
        }
    }

    /** "a part have MOST": of each KIND the MARK is asked, and one below MOST is not enough. */
    private static void leakyBySteps() {
        int[] full = {3, 1, 7, 3}, less = {2, 2, 6, 2};
        for (int kind = 0; kind < 4; kind++) {
            ExamScales x = School.one(kind, 3, kind == School.CHOICE ? 2 : 0);
            x.pupil(0, 1);
            x.answer(0, 0, full[kind]);
            x.answer(1, 0, less[kind]);
            due.is("17: kind " + kind + ", MOST", x.leaky(0, 0, 99), 1);
            x.strike(0, 1);
            due.is("17: kind " + kind + ", STRUCK", x.leaky(0, 0, 99), 1);
            x.answer(0, 0, less[kind]);
            due.is("17: kind " + kind + ", none has MOST", x.leaky(0, 0, 1), 0);
        }
    }

    /** "The i-th, from 0 on, of all questions and PLACES that are LEAKY": three PLACES of each of 30 questions. */
    private static void leaksOfAll() {
        for (int block = 0; block < 9; block++) {
            ExamScales x = allLeaking();
            for (int i = 10 * block; i < 10 * block + 10; i++) {
                due.is("18: number " + i, x.leak(33, i), 4 * (i / 3) + i % 3);
            }
        }
        ExamScales x = allLeaking();
        due.is("18: number 89 is the last", x.leak(33, 89), 4 * 29 + 2);
        for (int i : new int[] {90, 91, 119, 120, MAX, -1, MIN}) {
            due.is("18: no number " + i, x.leak(33, i), NONE);
        }
        due.is("18: a third is not above 34", x.leak(34, 0), NONE);
    }

    /** Three papers of ten questions, each with a pupil at each place; those at 3 alone have 0 at all. */
    private static ExamScales allLeaking() {
        ExamScales x = School.plain(30, 0);
        for (int paper = 0; paper < 3; paper++) {
            x.paper();
            for (int i = 0; i < 10; i++) {
                x.put(paper, 10 * paper + i);
            }
            for (int place = 0; place < 4; place++) {
                int pupil = x.pupil(paper, place);
                x.row(pupil, place < 3 ? 0x0a0a0a0a0a0a0a0aL : 0L);
                x.answer(pupil, 10 * paper + 8, place < 3 ? 10 : 0);
                x.answer(pupil, 10 * paper + 9, place < 3 ? 10 : 0);
            }
        }
        return x;
    }

    /** "ALIKE for m: two PUPILS .. with m or more questions". */
    private static void alikeByMOrMore() {
        for (int same = 0; same <= 12; same++) {
            ExamScales x = School.plain(12, 1);
            x.pupil(0, 0);
            x.pupil(0, 1);
            for (int q = 0; q < 12; q++) {
                x.answer(0, q, 4);
                x.answer(1, q, q < same ? 4 : 5);
            }
            due.is("29: " + same + " of 12", x.alike(0, 1), same);
            for (int m = 1; m <= 13; m++) {
                due.is("30: " + same + " for " + m, x.pair(0, m, 0), same >= m ? 1 : NONE);
            }
            due.is("30: for the greatest m", x.pair(0, MAX, 0), NONE);
            due.is("30: m 0", x.pair(0, 0, 0), BAD);
            due.is("30: m -1", x.pair(0, -1, 0), BAD);
            due.is("30: the least m", x.pair(0, MIN, 0), BAD);
        }
    }

    /** "two PUPILS of one PAPER". */
    private static void alikeOfOnePaper() {
        ExamScales x = School.plain(1, 2);
        for (int pupil = 0; pupil < 4; pupil++) {
            x.answer(x.pupil(pupil % 2, 0), 0, 3);
        }
        due.is("29: of one", x.alike(0, 2), 1);
        due.is("29: of two, with the same ANSWER", x.alike(0, 1), BAD);
        due.is("29: the other way round", x.alike(1, 0), BAD);
        due.is("29: one and itself", x.alike(3, 3), BAD);
        due.is("30: of paper 0", x.pair(0, 1, 0), 2);
        due.is("30: of paper 0, no second", x.pair(0, 1, 1), NONE);
        due.is("30: of paper 1", x.pair(1, 1, 0), 64 + 3);
        due.is("30: of paper 1, no second", x.pair(1, 1, 1), NONE);
    }

    /** "at which both have the same ANSWER and its MARK is below MOST": of each KIND, one below MOST is below. */
    private static void alikeBelowMost() {
        int[] full = {3, 1, 7, 3}, less = {2, 2, 3, 2}, none = {0, 0, 0, 0};
        for (int kind = 0; kind < 4; kind++) {
            ExamScales x = School.one(kind, 3, kind == School.CHOICE ? 2 : 0);
            x.pupil(0, 1);
            due.is("29: kind " + kind + ", both GAPS", x.alike(0, 1), 0);
            int[][] given = {{full[kind], 0}, {less[kind], 1}, {none[kind], 1}};
            for (int[] g : given) {
                x.answer(0, 0, g[0]);
                x.answer(1, 0, g[0]);
                due.is("29: kind " + kind + ", both " + g[0], x.alike(0, 1), g[1]);
            }
            x.gap(1, 0);
            due.is("29: kind " + kind + ", 0 and a GAP", x.alike(0, 1), 0);
            due.is("29: kind " + kind + ", a GAP and 0", x.alike(1, 0), 0);
            x.answer(1, 0, less[kind]);
            due.is("29: kind " + kind + ", both below, but unlike", x.alike(0, 1), 0);
        }
    }

    /** "The i-th, from 0 on, of all ALIKE two ..: 64 times the lesser and the greater": of 60 there are 1770. */
    private static void pairsOfSixty() {
        int i = 0;
        ExamScales x = sixtyAlike();
        for (int a = 0; a < 60; a++) {
            for (int b = a + 1; b < 60; b++) {
                if (i % 300 == 299) {
                    x = sixtyAlike();
                }
                due.is("30: number " + i, x.pair(0, 1, i), 64 * a + b);
                i++;
            }
        }
        due.is("30: the last one", sixtyAlike().pair(0, 1, 1769), 64 * 58 + 59);
        for (int no : new int[] {1770, 1771, MAX, -1, MIN}) {
            due.is("30: no number " + no, sixtyAlike().pair(0, 1, no), NONE);
        }
    }

    private static ExamScales sixtyAlike() {
        ExamScales x = School.plain(1, 1);
        for (int pupil = 0; pupil < 60; pupil++) {
            pupilWith(x, pupil % 4, 9);
        }
        return x;
    }
}
