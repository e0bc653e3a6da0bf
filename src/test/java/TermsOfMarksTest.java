/** The sentences of "Terms", part 1, that name a boundary: questions, papers, pupils, marks. Each method quotes its own. */
public final class TermsOfMarksTest {
    private static final int NONE = ExamScales.NONE, BAD = ExamScales.BAD;
    private static final int STATE = ExamScales.STATE, FULL = ExamScales.FULL;
    private static final int MIN = Integer.MIN_VALUE, MAX = Integer.MAX_VALUE;
    private static final Due due = new Due();

    public static void main(String[] args) {
        questionsNumbered();
        mostOfEachKind();
        kinds();
        keys();
        plainAnswers();
        choiceAnswers();
        stepAnswers();
        trialDoesNotCount();
        anyMayBeStruck();
        papersNumbered();
        allUnlike();
        twelveAtMost();
        pupilsNumbered();
        places();
        gapsAtFirst();
        comeTo();
        markOfGap();
        totals();
        fractions();
        easyOfThoseThatCame();
        sharpOfFew();
        due.end();
    }

    /** "QUESTIONS are numbered from 0 on, 30 at most". */
    private static void questionsNumbered() {
        ExamScales x = new ExamScales();
        for (int q = 0; q < 30; q++) {
            due.is("no question " + q + " yet", x.strike(q, 0), NONE);
            due.is("question " + q, x.question(q % 4, 1 + q % 10, School.keyFor(q % 4)), q);
            due.is("question " + q + " is there", x.strike(q, 0), 0);
        }
        for (int kind = 0; kind < 4; kind++) {
            int k = kind;
            due.refused("the 31st, kind " + k, () -> School.plain(30, 0), y -> y.question(k, 1, School.keyFor(k)), FULL);
        }
        due.is("29 leave room for one", School.plain(29, 0).question(0, 1, 0), 29);
    }

    /** "each with a MOST (1 .. 10)". */
    private static void mostOfEachKind() {
        for (int kind = 0; kind < 4; kind++) {
            int k = kind, key = School.keyFor(kind);
            for (int most = 1; most <= 10; most++) {
                due.is("kind " + k + ", MOST " + most, new ExamScales().question(k, most, key), 0);
            }
            for (int most : new int[] {MIN, -1, 0, 11, 12, MAX}) {
                due.refused("kind " + k + ", no MOST " + most, School::judged, x -> x.question(k, most, key), BAD);
            }
        }
    }

    /** "a KIND: 0 PLAIN .. 1 CHOICE .. 2 STEPS .. 3 TRIAL": what each takes as an answer tells it. */
    private static void kinds() {
        int[] greatest = {3, 7, 7, 3};
        int[] worth = {3, 0, 3, 3};
        for (int kind = 0; kind < 4; kind++) {
            ExamScales x = School.one(kind, 3, School.keyFor(kind));
            due.is("kind " + kind + ", the greatest answer", x.answer(0, 0, greatest[kind]), worth[kind]);
            due.is("kind " + kind + ", one more", x.answer(0, 0, greatest[kind] + 1), BAD);
        }
        for (int kind : new int[] {MIN, -1, 4, MAX}) {
            due.refused("no kind " + kind, School::judged, x -> x.question(kind, 3, 0), BAD);
            due.refused("no kind " + kind + ", with a KEY", School::judged, x -> x.question(kind, 3, 1), BAD);
        }
    }

    /** "with a KEY, a set of the options 0 .. 7 (bits, not 0)". */
    private static void keys() {
        for (int key = 1; key <= 255; key++) {
            ExamScales x = School.one(School.CHOICE, 1, key);
            due.is("KEY " + key, x.count(0), 1);
            due.is("KEY " + key + " is kept", x.key(0, 256 - key), key);
            due.is("KEY " + (256 - key) + " is kept", x.key(0, 1), 256 - key);
        }
        for (int key : new int[] {MIN, -256, -255, -1, 0, 256, 257, 512, MAX}) {
            due.refused("no KEY " + key, School::judged, x -> x.question(1, 3, key), BAD);
            due.refused("no other KEY " + key, School::judged, x -> x.key(1, key), BAD);
        }
    }

    /** "PLAIN: an answer a (0 .. MOST) is worth a"; "TRIAL: as PLAIN". */
    private static void plainAnswers() {
        for (int kind : new int[] {School.PLAIN, School.TRIAL}) {
            for (int most = 1; most <= 10; most++) {
                ExamScales x = School.one(kind, most, 0);
                for (int a = 0; a <= most; a++) {
                    due.is("kind " + kind + ", " + a + " of " + most, x.answer(0, 0, a), a);
                    due.is("kind " + kind + ", its MARK", x.mark(0, 0), a);
                }
                for (int a : new int[] {MIN, -1, most + 1, 255, MAX}) {
                    due.is("kind " + kind + ", no " + a + " of " + most, x.answer(0, 0, a), BAD);
                    due.is("kind " + kind + ", the ANSWER stays", x.mark(0, 0), most);
                }
            }
        }
    }

    /** "CHOICE ..: an answer is an option; worth MOST if it is of the KEY, else 0". */
    private static void choiceAnswers() {
        for (int key = 1; key <= 255; key++) {
            int most = 1 + key % 10;
            ExamScales x = School.one(School.CHOICE, most, key);
            for (int a = 0; a < 8; a++) {
                boolean isOfKey = (key >> a & 1) == 1;
                due.is("option " + a + " by KEY " + key, x.answer(0, 0, a), isOfKey ? most : 0);
            }
            for (int a : new int[] {MIN, -1, 8, 32, 33, 255, MAX}) {
                due.is("no option " + a + " by KEY " + key, x.answer(0, 0, a), BAD);
            }
            due.is("the last option stays", x.gap(0, 0), 7);
        }
    }

    /** "STEPS: an answer is a set of steps (bits 0 .. MOST - 1), worth how many of them there are from step 0 on ..". */
    private static void stepAnswers() {
        for (int most = 1; most <= 10; most++) {
            ExamScales x = School.one(School.STEPS, most, 0);
            int end = 1 << most;
            for (int a = 0; a < end; a++) {
                if (a % 400 == 399) {
                    x = School.one(School.STEPS, most, 0);
                }
                due.is("steps " + a + " of " + most, x.answer(0, 0, a), stepsFromZero(a));
            }
            for (int a : new int[] {MIN, -1, end, end + 1, 2 * end - 1, MAX}) {
                due.is("no steps " + a + " of " + most, x.answer(0, 0, a), BAD);
                due.is("the last ANSWER stays", x.mark(0, 0), most);
            }
        }
    }

    private static int stepsFromZero(int a) {
        return a % 2 == 0 ? 0 : 1 + stepsFromZero(a / 2);
    }

    /** "3 TRIAL: as PLAIN, but it does not count", in each sum that is of questions that count. */
    private static void trialDoesNotCount() {
        for (int kind = 0; kind < 4; kind++) {
            ExamScales x = twoPapersOfOne(kind);
            boolean counts = kind != School.TRIAL;
            due.is("14: kind " + kind, x.total(0), counts ? 1 : 0);
            due.is("19: kind " + kind, x.shared(0, 1), counts ? 1 : 0);
            due.is("20: kind " + kind, x.sum(0, 1), counts ? 1 : 0);
            due.is("21: kind " + kind, x.group(0, 0, 1), counts ? 1 : 0);
            due.is("26: kind " + kind, x.cut(0, 0), counts ? 1 : 0);
            due.is("12: kind " + kind, x.mark(0, 0), 1);
        }
    }

    /** Question 0 of MOST 1 in papers 0 and 1; pupil 0 of paper 0 has 1, and 1 is what a judge told. */
    private static ExamScales twoPapersOfOne(int kind) {
        ExamScales x = new ExamScales();
        x.question(kind, 1, kind == School.CHOICE ? 2 : 0);
        for (int paper = 0; paper < 2; paper++) {
            x.paper();
            x.put(paper, 0);
        }
        x.pupil(0, 0);
        x.answer(0, 0, 1);
        x.judge(0, 0, 0, 1);
        return x;
    }

    /** "Any question may be STRUCK (it does not count) or not." */
    private static void anyMayBeStruck() {
        for (int kind = 0; kind < 4; kind++) {
            ExamScales x = twoPapersOfOne(kind);
            due.is("4: kind " + kind + " was not", x.strike(0, 1), 0);
            due.is("31: kind " + kind, x.count(4), 1);
            due.is("14: STRUCK, kind " + kind, x.total(0), 0);
            due.is("19: STRUCK, kind " + kind, x.shared(0, 1), 0);
            due.is("20: STRUCK, kind " + kind, x.sum(0, 1), 0);
            due.is("21: STRUCK, kind " + kind, x.group(0, 0, 1), 0);
            due.is("26: STRUCK, kind " + kind, x.cut(0, 0), 0);
            due.is("12: STRUCK, kind " + kind, x.mark(0, 0), 1);
            due.is("4: kind " + kind + " was", x.strike(0, 0), 1);
            due.is("14: as before, kind " + kind, x.total(0), kind == School.TRIAL ? 0 : 1);
            due.is("31: none, kind " + kind, x.count(4), 0);
        }
    }

    /** "PAPERS are numbered from 0 on, 8 at most". */
    private static void papersNumbered() {
        ExamScales x = School.questions();
        for (int paper = 0; paper < 8; paper++) {
            due.is("no paper " + paper + " yet", x.put(paper, 0), NONE);
            due.is("paper " + paper, x.paper(), paper);
            due.is("paper " + paper + " is there", x.put(paper, 0), 0);
        }
        due.refused("the ninth", () -> School.plain(3, 8), ExamScales::paper, FULL);
        due.is("seven leave room for one", School.plain(3, 7).paper(), 7);
    }

    /** "each a row of questions, all unlike": whichever place the first one has. */
    private static void allUnlike() {
        for (int i = 0; i < 11; i++) {
            int q = i;
            due.refused("question " + q + " is in it", () -> School.plain(11, 1), x -> x.put(0, q), STATE);
        }
        ExamScales x = School.plain(1, 8);
        for (int paper = 0; paper < 8; paper++) {
            due.is("one question in each paper", x.at(paper, 0), 0);
        }
    }

    /** ".. 12 at most." */
    private static void twelveAtMost() {
        ExamScales x = School.plain(30, 0);
        x.paper();
        for (int i = 0; i < 12; i++) {
            due.is("nothing at " + i + " yet", x.at(0, i), NONE);
            due.is("question " + i, x.put(0, 29 - 2 * i), i);
            due.is("it is at " + i, x.at(0, i), 29 - 2 * i);
        }
        due.is("the 13th", x.put(0, 0), FULL);
        due.is("the 13th is not there", x.at(0, 12), NONE);
        for (int q = 0; q < 30; q += 2) {
            due.is("the 13th, question " + q, x.put(0, q), FULL);
        }
    }

    /** "PUPILS are numbered from 0 on, 60 at most, each with a PAPER". */
    private static void pupilsNumbered() {
        ExamScales x = School.plain(1, 8);
        for (int pupil = 0; pupil < 60; pupil++) {
            due.is("no pupil " + pupil + " yet", x.total(pupil), NONE);
            due.is("pupil " + pupil, x.pupil(pupil % 8, pupil % 4), pupil);
            due.is("pupil " + pupil + " is there", x.total(pupil), 0);
        }
        for (int paper = 0; paper < 8; paper++) {
            due.is("those of paper " + paper, x.group(paper, paper, 0), paper < 4 ? 8 : 7);
            due.is("the 61st, paper " + paper, x.pupil(paper, 0), FULL);
        }
        due.is("60 are there", x.count(2), 60);
    }

    /** ".. and a PLACE (0 .. 3)": each is a place of its own. */
    private static void places() {
        for (int place = 0; place < 4; place++) {
            ExamScales x = School.plain(1, 1);
            due.is("place " + place, x.pupil(0, place), 0);
            x.pupil(0, (place + 1) % 4);
            x.answer(0, 0, 10);
            x.answer(1, 0, 0);
            for (int asked = 0; asked < 4; asked++) {
                due.is("17: at " + place + ", asked for " + asked, x.leaky(0, asked, 1), asked == place ? 1 : 0);
            }
        }
        for (int place : new int[] {MIN, -1, 4, 5, MAX}) {
            due.refused("no place " + place, School::judged, x -> x.pupil(0, place), NONE);
            due.refused("17: no place " + place, School::judged, x -> x.leaky(0, place, 1), NONE);
        }
    }

    /** "For each question of its PAPER a PUPIL has an ANSWER, or a GAP (at first)." */
    private static void gapsAtFirst() {
        ExamScales x = School.plain(13, 0);
        x.paper();
        for (int q = 0; q < 12; q++) {
            x.put(0, q);
        }
        x.pupil(0, 0);
        for (int q = 0; q < 12; q++) {
            due.is("10: a GAP, question " + q, x.gap(0, q), NONE);
            due.is("12: of a GAP, question " + q, x.mark(0, q), 0);
            due.is("13: of a GAP, question " + q, x.come(0, q), 0);
        }
        due.is("31: no ANSWER", x.count(3), 0);
        due.is("12: not of its paper", x.mark(0, 12), NONE);
        due.is("13: not of its paper", x.come(0, 12), NONE);
    }

    /** "COME TO is a question (of its PAPER) that has an ANSWER, or that stands ahead of one that has." */
    private static void comeTo() {
        for (int answered = 0; answered < 12; answered++) {
            ExamScales x = new ExamScales();
            x.paper();
            for (int q = 0; q < 12; q++) {
                x.question(q % 4, 5, School.keyFor(q % 4));
            }
            for (int i = 0; i < 12; i++) {
                x.put(0, 11 - i);
            }
            x.pupil(0, 0);
            x.answer(0, 11 - answered, 0);
            for (int i = 0; i < 12; i++) {
                due.is("13: ANSWER at " + answered + ", asked at " + i, x.come(0, 11 - i), i <= answered ? 1 : 0);
            }
            x.strike(11 - answered, 1);
            due.is("13: an ANSWER to a STRUCK one", x.come(0, 11), 1);
            x.gap(0, 11 - answered);
            due.is("13: a GAP again", x.come(0, 11), 0);
        }
    }

    /** "A MARK is what an ANSWER is worth; of a GAP 0." */
    private static void markOfGap() {
        for (int kind = 0; kind < 4; kind++) {
            ExamScales x = School.one(kind, 1, kind == School.CHOICE ? 2 : 0);
            due.is("12: a GAP, kind " + kind, x.mark(0, 0), 0);
            x.answer(0, 0, 1);
            due.is("12: an ANSWER, kind " + kind, x.mark(0, 0), 1);
            x.gap(0, 0);
            due.is("12: a GAP again, kind " + kind, x.mark(0, 0), 0);
        }
        ExamScales all = School.one(School.CHOICE, 1, 255);
        due.is("12: a GAP by the fullest KEY", all.mark(0, 0), 0);
    }

    /** "The TOTAL of a PUPIL is the sum of the MARKS of questions that count." From none to all twelve of 10. */
    private static void totals() {
        ExamScales x = School.plain(12, 1);
        x.pupil(0, 0);
        for (int q = 0; q < 12; q++) {
            due.is("14: of " + q + " ANSWERS", x.total(0), 10 * q);
            x.answer(0, q, 10);
        }
        due.is("14: of all", x.total(0), 120);
        for (int q = 0; q < 12; q++) {
            x.strike(q, 1);
            due.is("14: " + (q + 1) + " STRUCK", x.total(0), 110 - 10 * q);
        }
        ExamScales empty = new ExamScales();
        empty.paper();
        empty.pupil(0, 0);
        due.is("14: of a paper without questions", empty.total(0), 0);
    }

    /** "A fraction is told .. without a common divisor, that below above 0 (0 is 0 by 1)." */
    private static void fractions() {
        for (int most = 1; most <= 10; most++) {
            ExamScales x = School.one(School.PLAIN, most, 0);
            for (int a = 0; a <= most; a++) {
                x.answer(0, 0, a);
                long above = x.easy(0, 0), below = x.easy(0, 1);
                due.is("15: " + a + " by " + most, above * most, below * a);
                due.isTrue("15: above 0 is what is below, " + a + " by " + most, below > 0);
                for (int d = 2; d <= most; d++) {
                    due.isTrue("15: " + d + " divides both, " + a + " by " + most, above % d != 0 || below % d != 0);
                }
            }
            x.answer(0, 0, 0);
            due.is("15: 0 is 0, MOST " + most, x.easy(0, 0), 0);
            due.is("15: by 1, MOST " + most, x.easy(0, 1), 1);
        }
    }

    /** "EASY ..: the sum of MARKS by MOST times how many, of all PUPILS that have COME TO it." */
    private static void easyOfThoseThatCame() {
        ExamScales x = School.plain(2, 1);
        x.pupil(0, 0);
        due.is("15: none, above", x.easy(0, 0), 0);
        due.is("15: none, below", x.easy(0, 1), 1);
        x.answer(0, 1, 0);
        due.is("15: a GAP that is COME TO, above", x.easy(0, 0), 0);
        x.pupil(0, 0);
        x.answer(1, 0, 10);
        due.is("15: 10 by 20, above", x.easy(0, 0), 1);
        due.is("15: 10 by 20, below", x.easy(0, 1), 2);
        x.pupil(0, 0);
        due.is("15: a third one that has not come, below", x.easy(0, 1), 2);
        x.answer(2, 1, 10);
        due.is("15: a third one that has, below", x.easy(0, 1), 3);
        for (int pupil = 3; pupil < 60; pupil++) {
            x.pupil(0, 0);
            x.answer(pupil, 0, 10);
        }
        due.is("15: 58 of 60, above", x.easy(0, 0), 29);
        due.is("15: 58 of 60, below", x.easy(0, 1), 30);
    }

    /** "SHARP: of these, n: n times the sum of the products .., less ..": of none, of one, of two, of 60. */
    private static void sharpOfFew() {
        ExamScales x = School.plain(2, 1);
        x.pupil(0, 0);
        due.is("16: of none", x.sharp(0), 0);
        x.row(0, School.tape(10, 10));
        due.is("16: of one", x.sharp(0), 0);
        x.pupil(0, 0);
        due.is("16: the second one has not COME TO it", x.sharp(0), 0);
        x.row(1, School.tape(255, 0));
        due.is("16: the second one has a GAP: 2 * 100 - 10 * 10", x.sharp(0), 100);
        x.answer(1, 0, 10);
        due.is("16: both have 10: 2 * 100 - 20 * 10", x.sharp(0), 0);
        x.row(1, School.tape(0, 10));
        due.is("16: 2 * 100 - 10 * 20", x.sharp(0), 0);
        x.row(0, School.tape(0, 10));
        x.row(1, School.tape(10, 0));
        due.is("16: 2 * 0 - 10 * 10", x.sharp(0), -100);
        ExamScales all = School.plain(12, 1);
        for (int pupil = 0; pupil < 60; pupil++) {
            all.pupil(0, 0);
            if (pupil < 30) {
                all.row(pupil, 0x0a0a0a0a0a0a0a0aL);
                all.answer(pupil, 11, 10);
            } else {
                all.answer(pupil, 11, 0);
            }
        }
        due.is("16: of 60: 60 * 30 * 10 * 80 - 300 * 30 * 80", all.sharp(0), 60L * 30 * 10 * 80 - 300L * 30 * 80);
    }
}
