/** Small objects that several tests begin with. */
final class School {
    static final int PLAIN = 0, CHOICE = 1, STEPS = 2, TRIAL = 3;

    private School() {
    }

    /** Question 0 PLAIN of 5, 1 CHOICE of 3 with options 1 and 2, 2 STEPS of 4, 3 TRIAL of 2, 4 PLAIN of 4. */
    static ExamScales questions() {
        ExamScales x = new ExamScales();
        x.question(PLAIN, 5, 0);
        x.question(CHOICE, 3, 6);
        x.question(STEPS, 4, 0);
        x.question(TRIAL, 2, 0);
        x.question(PLAIN, 4, 0);
        return x;
    }

    /** Paper 0: questions 0 1 3 4; paper 1: questions 2 0 1. */
    static ExamScales papers() {
        ExamScales x = questions();
        x.paper();
        for (int q : new int[] {0, 1, 3, 4}) {
            x.put(0, q);
        }
        x.paper();
        for (int q : new int[] {2, 0, 1}) {
            x.put(1, q);
        }
        return x;
    }

    /** Pupils 0, 1, 2 of paper 0 at places 0, 1, 1; pupils 3, 4 of paper 1 at places 2, 0; all GAPS. */
    static ExamScales pupils() {
        ExamScales x = papers();
        x.pupil(0, 0);
        x.pupil(0, 1);
        x.pupil(0, 1);
        x.pupil(1, 2);
        x.pupil(1, 0);
        return x;
    }

    /** With answers: the TOTALS are 8 2 8 and 6 5; the SHARED SUMS 7 2 8 and 3 4. */
    static ExamScales answered() {
        ExamScales x = pupils();
        x.row(0, tape(4, 2, 255, 1));
        x.row(1, tape(2, 0));
        x.row(2, tape(5, 1, 2));
        x.row(3, tape(7, 3));
        x.row(4, tape(5, 1, 1));
        return x;
    }

    /** The answers given and two judges' words: the CUT of paper 0 is 3 + 4 by 2, and 2. */
    static ExamScales judged() {
        ExamScales x = answered();
        x.judge(0, 0, 0, 3);
        x.judge(1, 0, 0, 4);
        x.judge(0, 0, 4, 2);
        return x;
    }

    /** One question, in paper 0, which pupil 0 has. */
    static ExamScales one(int kind, int most, int key) {
        ExamScales x = new ExamScales();
        x.question(kind, most, key);
        x.paper();
        x.put(0, 0);
        x.pupil(0, 0);
        return x;
    }

    /** The least KEY of a CHOICE, and what the others have for it. */
    static int keyFor(int kind) {
        return kind == CHOICE ? 1 : 0;
    }

    /** PLAIN questions of 10, all of them in each paper. */
    static ExamScales plain(int questions, int papers) {
        ExamScales x = new ExamScales();
        for (int q = 0; q < questions; q++) {
            x.question(PLAIN, 10, 0);
        }
        for (int paper = 0; paper < papers; paper++) {
            x.paper();
            for (int q = 0; q < questions; q++) {
                x.put(paper, q);
            }
        }
        return x;
    }

    /**
     * As much of all as there can be. Papers 0 .. 2 have questions 0 .. 29 among them, paper 7 as many as
     * it can, but no pupil; the last pupil is the only one at place 3, and the only one right at question 29.
     */
    static ExamScales full() {
        ExamScales x = new ExamScales();
        for (int q = 0; q < 30; q++) {
            x.question(q % 4, 10 - q % 3, q % 4 == CHOICE ? 2 : 0);
        }
        for (int paper = 0; paper < 8; paper++) {
            x.paper();
        }
        for (int i = 0; i < 12; i++) {
            x.put(0, i);
            x.put(1, 11 + i);
            x.put(7, 2 * i);
        }
        for (int q = 29; q > 21; q--) {
            x.put(2, q);
        }
        for (int pupil = 0; pupil < 59; pupil++) {
            x.pupil(pupil % 3, pupil % 2);
            x.row(pupil, 0x0305020304030204L + pupil % 2);
        }
        x.pupil(2, 3);
        x.row(59, tape(1, 3, 2, 7, 1, 3));
        x.judge(7, 2, 29, 3);
        x.judge(0, 7, 22, 1);
        x.strike(28, 1);
        return x;
    }

    /** Bytes from the highest one on; what is not named is 254, the end. */
    static long tape(int... bytes) {
        long w = 0;
        for (int i = 0; i < 8; i++) {
            w = w << 8 | (i < bytes.length ? bytes[i] : 254);
        }
        return w;
    }
}
