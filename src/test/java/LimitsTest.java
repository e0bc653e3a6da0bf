/** An object with all that the limits allow, asked at its last question, paper, place of a paper, pupil and judge. */
public final class LimitsTest {
    private static final int LAST_PAPER = 7, LAST_QUESTION = 29, LAST_PUPIL = 59;
    private static final long ALL_TEN = 0x0a0a0a0a0a0a0a0aL;
    private static final Due due = new Due();

    public static void main(String[] args) {
        allGaps();
        lastAnswers();
        lastJudge();
        scales();
        due.end();
    }

    /** The last paper has questions 18 .. 29; all 60 pupils are of it, the last one at place 3. */
    private static ExamScales house() {
        ExamScales x = School.plain(30, 0);
        for (int paper = 0; paper <= LAST_PAPER; paper++) {
            x.paper();
        }
        for (int q = 18; q <= LAST_QUESTION; q++) {
            x.put(LAST_PAPER, q);
        }
        for (int pupil = 0; pupil <= LAST_PUPIL; pupil++) {
            x.pupil(LAST_PAPER, pupil == LAST_PUPIL ? 3 : 1);
        }
        return x;
    }

    private static void allGaps() {
        ExamScales x = house();
        due.is("13: the last GAP", x.come(LAST_PUPIL, LAST_QUESTION), 0);
        due.is("14: without ANSWERS", x.total(LAST_PUPIL), 0);
        due.is("15: nobody has COME TO it", x.easy(LAST_QUESTION, 1), 1);
        due.is("16: nobody has COME TO it", x.sharp(LAST_QUESTION), 0);
        due.is("17: nobody has COME TO it", x.leaky(LAST_QUESTION, 3, 1), 0);
        due.is("18: no leak", x.leak(1, 0), ExamScales.NONE);
        due.is("23: all have 0", x.rank(LAST_PAPER, 0), 60);
        due.is("28: all have 0", x.border(LAST_PAPER, 0), 60);
        due.is("29: all GAPS", x.alike(58, LAST_PUPIL), 0);
        due.is("30: no two", x.pair(LAST_PAPER, 1, 0), ExamScales.NONE);
        due.is("31: all PASS", x.count(5), 60);
    }

    /** All have 80, the last one 120. */
    private static ExamScales answered() {
        ExamScales x = house();
        for (int pupil = 0; pupil <= LAST_PUPIL; pupil++) {
            x.row(pupil, ALL_TEN);
        }
        for (int q = 26; q <= LAST_QUESTION; q++) {
            x.answer(LAST_PUPIL, q, 10);
        }
        return x;
    }

    private static void lastAnswers() {
        ExamScales x = answered();
        due.is("7: the last place", x.at(LAST_PAPER, 11), LAST_QUESTION);
        due.is("13: the last ANSWER", x.come(LAST_PUPIL, LAST_QUESTION), 1);
        due.is("14: the greatest TOTAL", x.total(LAST_PUPIL), 120);
        due.is("16: all have MOST", x.sharp(18), 0);
        x.answer(58, LAST_QUESTION, 0);
        due.is("16: 2 * 1100 - 10 * 190", x.sharp(LAST_QUESTION), 2 * 10 * 110 - 10 * (110 + 80));
        due.is("18: the last question and place", x.leak(99, 3), 4 * LAST_QUESTION + 3);
        due.is("18: the last of the others", x.leak(99, 2), 4 * 28 + 3);
        due.is("24: the greatest one is reached", x.like(LAST_PAPER, LAST_PAPER, 120), 120);
        due.is("24: the greatest one is above all others", x.like(LAST_PAPER, LAST_PAPER, 119), 120);
        x.answer(LAST_PUPIL, LAST_QUESTION, 0);
        due.is("30: the last two", x.pair(LAST_PAPER, 1, 0), 64 * 58 + LAST_PUPIL);
        due.is("31: all ANSWERS", x.count(3), 60 * 8 + 4 + 1);
    }

    private static void lastJudge() {
        ExamScales x = answered();
        due.is("25: the last judge", x.judge(7, LAST_PAPER, LAST_QUESTION, 10), ExamScales.NONE);
        due.is("25: what it had told", x.judge(7, LAST_PAPER, LAST_QUESTION, 9), 10);
        due.is("26: its word", x.cut(LAST_PAPER, 0), 9);
        due.is("27: the last one", x.passes(LAST_PUPIL), 1);
        due.is("28: 80 and 9", x.border(LAST_PAPER, 71), 59);
        due.is("28: 80 and 9, too far", x.border(LAST_PAPER, 70), 0);
    }

    /** 58 pupils of one paper and 2 of the other, both of 12 questions, as far from one another as can be. */
    private static void scales() {
        ExamScales x = School.plain(12, 2);
        for (int pupil = 0; pupil <= LAST_PUPIL; pupil++) {
            x.pupil(pupil < 58 ? 0 : 1, 0);
            x.row(pupil, pupil % 2 == 0 ? ALL_TEN : 0L);
        }
        due.is("21: the greatest AWAY", x.group(0, 1, 2), 58L * 58 * 40);
        for (int q = 8; q < 12; q++) {
            x.strike(q, 1);
        }
        due.is("22: one line to itself, above", x.scale(0, 1, 120, 0), 120);
        due.is("22: one line to itself, below", x.scale(0, 1, 120, 1), 1);
        x.answer(0, 0, 9);
        due.is("22: the mean of TOTALS is no whole number", x.scale(1, 0, 120, 0), 120);
    }
}
