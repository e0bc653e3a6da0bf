import java.util.Random;

/**
 * Runs of 512 calls, asked of the class and of the model of the document alike. The seeds are fixed,
 * so that every run is the same each time.
 */
public final class ModelRunsTest {
    private static final int RUNS = 600, CALLS = 512;
    private static final int[] ODD = {Integer.MIN_VALUE, Integer.MAX_VALUE, -2, -1, 0, 32, 64, 100, 255, 256};
    private static final Due due = new Due();

    private final String name;
    private final Random random;
    private final ExamScales x = new ExamScales();
    private final Model m = new Model();
    private int calls = 0;

    private ModelRunsTest(int seed) {
        name = "run " + seed;
        random = new Random(seed);
    }

    public static void main(String[] args) {
        for (int seed = 0; seed < RUNS; seed++) {
            ModelRunsTest run = new ModelRunsTest(seed);
            if (seed % 4 != 0) {
                run.setUp(seed);
            }
            run.go(seed % 3 == 0);
        }
        due.end();
    }

    private void same(String call, long got, long want) {
        calls++;
        due.is(name + ", call " + calls + ", " + call, got, want);
    }

    /** Seldom any number at all, else from one below to one above what is there. */
    private int about(int n) {
        return random.nextInt(60) == 0 ? ODD[random.nextInt(ODD.length)] : near(n);
    }

    private int near(int n) {
        return random.nextInt(12) == 0 ? random.nextInt(n + 3) - 1 : random.nextInt(Math.max(n, 1));
    }

    private int q() {
        return about(m.count(0));
    }

    private int paperNumber() {
        return about(m.count(1));
    }

    private int pupilNumber() {
        return about(m.count(2));
    }

    private int questionOf(int paper) {
        int q = m.at(paper, random.nextInt(12));
        return q < 0 ? q() : q;
    }

    private void setUp(int seed) {
        boolean large = seed % 2 == 0;
        int questions = large ? 24 + random.nextInt(8) : 2 + random.nextInt(6);
        int papers = large ? 2 + random.nextInt(3) : 2;
        int perPaper = large ? 12 : 5;
        int pupils = large ? 40 + random.nextInt(22) : 4 + random.nextInt(12);
        for (int i = 0; i < questions; i++) {
            question();
        }
        for (int i = 0; i < papers; i++) {
            same("paper()", x.paper(), m.paper());
            for (int k = 0; k < perPaper; k++) {
                put(i);
            }
        }
        for (int i = 0; i < pupils; i++) {
            pupil(random.nextInt(papers));
            row(i);
        }
    }

    private void go(boolean asking) {
        while (calls < CALLS) {
            int section = random.nextInt(asking ? 9 : 14);
            if (section < 2) {
                judgedCall();
            } else if (section < 5) {
                scalesCall();
            } else if (section < 8) {
                cutsCall();
            } else if (section < 11) {
                answersCall();
            } else {
                makingCall();
            }
        }
    }

    private void question() {
        int kind = near(4), most = 1 + near(10);
        int key = kind == 1 ? 1 + near(255) : random.nextInt(20) == 0 ? 1 : 0;
        same("question(" + kind + ", " + most + ", " + key + ")", x.question(kind, most, key), m.question(kind, most, key));
    }

    private void put(int paper) {
        int q = q();
        same("put(" + paper + ", " + q + ")", x.put(paper, q), m.put(paper, q));
    }

    private void pupil(int paper) {
        int place = near(random.nextBoolean() ? 2 : 4);
        same("pupil(" + paper + ", " + place + ")", x.pupil(paper, place), m.pupil(paper, place));
    }

    private void row(int pupil) {
        long w = 0;
        for (int i = 0; i < 8; i++) {
            int pick = random.nextInt(40);
            int next = pick == 0 ? 254 : pick < 5 ? 255 : pick == 5 ? random.nextInt(256) : random.nextInt(2);
            w = w << 8 | (pick > 34 ? random.nextInt(8) : next);
        }
        same("row(" + pupil + ", " + w + ")", x.row(pupil, w), m.row(pupil, w));
    }

    private void makingCall() {
        int q = q(), paper = paperNumber();
        switch (random.nextInt(8)) {
            case 0 -> question();
            case 1 -> {
                int key = about(256);
                same("key(" + q + ", " + key + ")", x.key(q, key), m.key(q, key));
            }
            case 2, 3 -> {
                int is = near(2);
                same("strike(" + q + ", " + is + ")", x.strike(q, is), m.strike(q, is));
            }
            case 4 -> {
                if (random.nextInt(3) == 0) {
                    same("paper()", x.paper(), m.paper());
                }
            }
            case 5 -> put(paper);
            case 6 -> pupil(paper);
            default -> {
                int i = about(12);
                same("at(" + paper + ", " + i + ")", x.at(paper, i), m.at(paper, i));
            }
        }
    }

    private void answersCall() {
        int pupil = pupilNumber(), q = q(), a = random.nextInt(3) == 0 ? about(1024) : near(5);
        String two = "(" + pupil + ", " + q + ")";
        switch (random.nextInt(8)) {
            case 0, 1, 2 -> same("answer(" + pupil + ", " + q + ", " + a + ")", x.answer(pupil, q, a), m.answer(pupil, q, a));
            case 3 -> same("gap" + two, x.gap(pupil, q), m.gap(pupil, q));
            case 4 -> row(pupil);
            case 5 -> same("mark" + two, x.mark(pupil, q), m.mark(pupil, q));
            case 6 -> same("come" + two, x.come(pupil, q), m.come(pupil, q));
            default -> same("total(" + pupil + ")", x.total(pupil), m.total(pupil));
        }
    }

    private void judgedCall() {
        int q = q(), what = near(2), place = near(4), bar = random.nextBoolean() ? 1 + near(100) : 1 + near(30), i = near(8);
        switch (random.nextInt(4)) {
            case 0 -> same("easy(" + q + ", " + what + ")", x.easy(q, what), m.easy(q, what));
            case 1 -> same("sharp(" + q + ")", x.sharp(q), m.sharp(q));
            case 2 -> same("leaky(" + q + ", " + place + ", " + bar + ")", x.leaky(q, place, bar), m.leaky(q, place, bar));
            default -> same("leak(" + bar + ", " + i + ")", x.leak(bar, i), m.leak(bar, i));
        }
    }

    private void scalesCall() {
        int p = paperNumber(), q = paperNumber(), pupil = pupilNumber();
        int what = near(3), t = random.nextBoolean() ? about(121) : near(30);
        String pq = p + ", " + q;
        switch (random.nextInt(7)) {
            case 0 -> same("shared(" + pq + ")", x.shared(p, q), m.shared(p, q));
            case 1 -> same("sum(" + pupil + ", " + q + ")", x.sum(pupil, q), m.sum(pupil, q));
            case 2 -> same("group(" + pq + ", " + what + ")", x.group(p, q, what), m.group(p, q, what));
            case 3 -> same("rank(" + p + ", " + t + ")", x.rank(p, t), m.rank(p, t));
            case 4 -> same("like(" + pq + ", " + t + ")", x.like(p, q, t), m.like(p, q, t));
            default -> same("scale(" + pq + ", " + t + ", " + what + ")", x.scale(p, q, t, what), m.scale(p, q, t, what));
        }
    }

    private void cutsCall() {
        int paper = paperNumber(), pupil = pupilNumber(), other = pupilNumber(), what = near(2);
        int d = random.nextInt(3) == 0 ? about(100) : near(6);
        switch (random.nextInt(9)) {
            case 0, 1, 2 -> judge(paper);
            case 3 -> same("cut(" + paper + ", " + what + ")", x.cut(paper, what), m.cut(paper, what));
            case 4 -> same("passes(" + pupil + ")", x.passes(pupil), m.passes(pupil));
            case 5 -> same("border(" + paper + ", " + d + ")", x.border(paper, d), m.border(paper, d));
            case 6 -> same("alike(" + pupil + ", " + other + ")", x.alike(pupil, other), m.alike(pupil, other));
            case 7 -> {
                int least = about(7), i = random.nextBoolean() ? near(4) : about(300);
                same("pair(" + paper + ", " + least + ", " + i + ")", x.pair(paper, least, i), m.pair(paper, least, i));
            }
            default -> {
                int n = near(6);
                same("count(" + n + ")", x.count(n), m.count(n));
            }
        }
    }

    private void judge(int paper) {
        int j = near(8), q = random.nextInt(5) == 0 ? q() : questionOf(paper);
        int v = random.nextInt(8) == 0 ? about(11) : near(4);
        String call = "judge(" + j + ", " + paper + ", " + q + ", " + v + ")";
        same(call, x.judge(j, paper, q, v), m.judge(j, paper, q, v));
    }
}
