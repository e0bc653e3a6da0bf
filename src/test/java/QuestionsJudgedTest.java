import java.util.function.Supplier;

/** Promises 15 to 18. */
public final class QuestionsJudgedTest {
    private static final int NONE = ExamScales.NONE, BAD = ExamScales.BAD;
    private static final long NO = ExamScales.NO;
    private static final int MIN = Integer.MIN_VALUE, MAX = Integer.MAX_VALUE;
    private static final Due due = new Due();

    public static void main(String[] args) {
        easy();
        sharp();
        leaky();
        leakyNeedsBoth();
        leakyRefused();
        leak();
        leakRefused();
        due.end();
    }

    private static void easyIs(String what, ExamScales x, int q, long above, long below) {
        due.is("15: " + what + ", above", x.easy(q, 0), above);
        due.is("15: " + what + ", below", x.easy(q, 1), below);
    }

    private static void easy() {
        ExamScales x = School.answered();
        easyIs("of both papers, 15 by 25", x, 0, 3, 5);
        easyIs("one has not COME TO it, 9 by 12", x, 1, 3, 4);
        easyIs("STEPS, 4 by 8", x, 2, 1, 2);
        easyIs("TRIAL, with a GAP that is COME TO, 2 by 4", x, 3, 1, 2);
        easyIs("one pupil", x, 4, 1, 4);
        x.strike(0, 1);
        easyIs("STRUCK", x, 0, 3, 5);
        x.answer(0, 4, 4);
        easyIs("all have MOST", x, 4, 1, 1);
        x.answer(0, 4, 0);
        easyIs("all have 0", x, 4, 0, 1);
        easyIs("nobody has COME TO it", School.pupils(), 0, 0, 1);
        easyIs("in no paper", School.questions(), 1, 0, 1);
        for (int q : new int[] {-1, 5, 30, 32, MIN, MAX}) {
            due.refused("15: no question " + q, School::answered, y -> y.easy(q, 0), NO);
            due.refused("15: no question " + q + ", below", School::answered, y -> y.easy(q, 1), NO);
        }
        for (int what : new int[] {-1, 2, MIN, MAX}) {
            due.refused("15: what " + what, School::answered, y -> y.easy(0, what), NO);
        }
    }

    private static void sharp() {
        ExamScales x = School.answered();
        due.is("16: of both papers, 5 * 44 - 15 * 14", x.sharp(0), 10);
        due.is("16: those that have COME TO it, 4 * 36 - 9 * 14", x.sharp(1), 4 * (3 * 5 + 3 * 5 + 3 * 2) - 9 * (5 + 2 + 5 + 2));
        due.is("16: one pupil", x.sharp(4), 0);
        x.answer(2, 4, 1);
        due.is("16: TRIAL, its MARK is not in the TOTAL: 2 * 18 - 2 * 17", x.sharp(3), 2);
        ExamScales y = School.answered();
        y.strike(0, 1);
        due.is("16: STRUCK, its MARK is not in the TOTAL", y.sharp(0), 10);
        due.is("16: another one is STRUCK", y.sharp(1), 4 * (3 * 1 + 3 * 0 + 3 * 1) - 9 * (1 + 0 + 0 + 1));
        due.is("16: below 0", againstTheRest().sharp(0), -50);
        due.is("16: nobody has COME TO it", School.pupils().sharp(0), 0);
        due.is("16: in no paper", School.questions().sharp(4), 0);
        for (int q : new int[] {-1, 5, 30, 32, MIN, MAX}) {
            due.refused("16: no question " + q, School::answered, z -> z.sharp(q), NO);
        }
    }

    /** Marks 10, 0 and rests 0, 5: 2 * 0 - 10 * 5. */
    private static ExamScales againstTheRest() {
        ExamScales x = School.plain(2, 1);
        x.pupil(0, 0);
        x.pupil(0, 0);
        x.row(0, School.tape(10, 0));
        x.row(1, School.tape(0, 5));
        return x;
    }

    private static void pupilWith(ExamScales x, int place, int... row) {
        x.row(x.pupil(0, place), School.tape(row));
    }

    /** Question 0: at place 2 one of two has MOST, of all others one of four; the TRIAL 1 keeps it COME TO. */
    private static ExamScales quarterAbove() {
        ExamScales x = new ExamScales();
        x.question(School.PLAIN, 4, 0);
        x.question(School.TRIAL, 1, 0);
        x.paper();
        x.put(0, 0);
        x.put(0, 1);
        pupilWith(x, 2, 4);
        pupilWith(x, 2, 255, 0);
        pupilWith(x, 0, 4);
        pupilWith(x, 0, 3);
        pupilWith(x, 1, 0, 0);
        pupilWith(x, 3, 255, 1);
        pupilWith(x, 0);
        pupilWith(x, 2);
        return x;
    }

    private static void leaky() {
        ExamScales x = quarterAbove();
        due.is("17: above by 25 hundredths, bar 24", x.leaky(0, 2, 24), 1);
        due.is("17: above by 25 hundredths, bar 25", x.leaky(0, 2, 25), 0);
        due.is("17: above by 25 hundredths, bar 1", x.leaky(0, 2, 1), 1);
        due.is("17: 1 of 2 and 1 of 4, bar 24, another place", x.leaky(0, 0, 24), 1);
        due.is("17: place 0 has 1 of 2, all others 1 of 4", x.leaky(0, 0, 25), 0);
        due.is("17: below", x.leaky(0, 1, 1), 0);
        x.strike(0, 1);
        due.is("17: STRUCK", x.leaky(0, 2, 24), 1);
        ExamScales all = School.plain(1, 1);
        pupilWith(all, 0, 10);
        pupilWith(all, 3, 9);
        due.is("17: all and none, bar 99", all.leaky(0, 0, 99), 1);
        due.is("17: all and none, bar 100", all.leaky(0, 0, 100), 0);
        due.is("17: none and all", all.leaky(0, 3, 1), 0);
        all.answer(1, 0, 10);
        due.is("17: as many", all.leaky(0, 0, 1), 0);
    }

    private static void leakyNeedsBoth() {
        ExamScales x = School.plain(1, 1);
        pupilWith(x, 0, 10);
        due.is("17: nobody at other places", x.leaky(0, 0, 1), 0);
        due.is("17: nobody at the place", x.leaky(0, 1, 1), 0);
        pupilWith(x, 1);
        due.is("17: the other one has not COME TO it", x.leaky(0, 0, 1), 0);
        ExamScales two = new ExamScales();
        two.question(School.CHOICE, 2, 8);
        two.paper();
        two.paper();
        two.put(0, 0);
        two.put(1, 0);
        two.pupil(0, 1);
        two.pupil(1, 2);
        two.answer(0, 0, 3);
        two.answer(1, 0, 4);
        due.is("17: over papers", two.leaky(0, 1, 50), 1);
        two.key(0, 16);
        due.is("17: with another KEY", two.leaky(0, 1, 50), 0);
        due.is("17: with another KEY, the other one", two.leaky(0, 2, 50), 1);
        due.is("17: nobody at all", School.pupils().leaky(0, 0, 1), 0);
    }

    private static void leakyRefused() {
        Supplier<ExamScales> maker = QuestionsJudgedTest::quarterAbove;
        for (int q : new int[] {-1, 2, 30, 32, MIN, MAX}) {
            due.refused("17: no question " + q, maker, x -> x.leaky(q, 2, 24), NONE);
            due.refused("17: no question ahead of BAD", maker, x -> x.leaky(q, 2, 0), NONE);
        }
        for (int place : new int[] {-1, 4, MIN, MAX}) {
            due.refused("17: no place " + place, maker, x -> x.leaky(0, place, 24), NONE);
            due.refused("17: no place ahead of BAD", maker, x -> x.leaky(0, place, 101), NONE);
            due.refused("17: neither question nor place nor bar", maker, x -> x.leaky(2, place, 0), NONE);
        }
        for (int bar : new int[] {0, -1, 101, MIN, MAX}) {
            due.refused("17: bar " + bar, maker, x -> x.leaky(0, 2, bar), BAD);
        }
    }

    /** Question 0 has MOST at places 1 and 3, question 1 at place 0, question 2 nowhere. */
    private static ExamScales threeLeaks() {
        ExamScales x = School.plain(3, 1);
        pupilWith(x, 3, 10, 0, 0);
        pupilWith(x, 2, 0, 0, 0);
        pupilWith(x, 1, 10, 0, 0);
        pupilWith(x, 0, 0, 10, 0);
        return x;
    }

    private static void leak() {
        ExamScales x = threeLeaks();
        due.is("18: first", x.leak(10, 0), 1);
        due.is("18: second, by PLACES", x.leak(10, 1), 3);
        due.is("18: third, by questions ahead of PLACES", x.leak(10, 2), 4);
        due.is("18: no fourth", x.leak(10, 3), NONE);
        due.is("18: 66 of 100, by two thirds", x.leak(66, 0), 1);
        due.is("18: not by 67", x.leak(67, 0), 4);
        due.is("18: not by 67, second", x.leak(67, 1), NONE);
        due.is("18: bar 100", x.leak(100, 0), NONE);
        ExamScales last = School.plain(30, 0);
        last.paper();
        last.put(0, 29);
        last.row(last.pupil(0, 3), School.tape(10));
        last.row(last.pupil(0, 2), School.tape(9));
        due.is("18: the last question and place", last.leak(1, 0), 119);
    }

    private static void leakRefused() {
        Supplier<ExamScales> maker = QuestionsJudgedTest::threeLeaks;
        for (int i : new int[] {-1, 3, 120, MIN, MAX}) {
            due.refused("18: no number " + i, maker, x -> x.leak(10, i), NONE);
        }
        for (int bar : new int[] {0, -1, 101, MIN, MAX}) {
            due.refused("18: bar " + bar, maker, x -> x.leak(bar, 0), BAD);
            due.refused("18: bar " + bar + ", behind the last leak", maker, x -> x.leak(bar, 3), BAD);
            for (int i : new int[] {-1, -2, MIN}) {
                due.refused("18: NONE ahead of BAD, bar " + bar + ", " + i, maker, x -> x.leak(bar, i), NONE);
            }
        }
    }
}
