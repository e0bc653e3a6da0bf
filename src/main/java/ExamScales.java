import java.util.Arrays;

/**
 * Papers of unlike hardness brought to one scale. Every MARK, TOTAL and CUT is worked out when it
 * is asked for, since a KEY or a STRUCK question changes them for all PUPILS at once; only what was
 * told is kept. Sets of questions are bits of an int, as there are 30 questions at most.
 */
public final class ExamScales {
    public static final int NONE = -1, BAD = -2, STATE = -3, FULL = -4;
    public static final long NO = Long.MIN_VALUE;

    private static final int CHOICE = 1, STEPS = 2, TRIAL = 3;
    private static final int QUESTIONS = 30, PAPERS = 8, SPOTS = 12, PUPILS = 60;
    private static final int PLACES = 4, JUDGES = 8;
    private static final int GREATEST_MOST = 10, GREATEST_KEY = 255, GREATEST_OPTION = 7;
    private static final int GREATEST_TOTAL = 120, HUNDREDTHS = 100, PAIR_BASE = 64;

    /** As NONE, so that what an ANSWER or a JUDGE's word was can be told as it is kept. */
    private static final int GAP = NONE, UNTOLD = NONE;

    private static final int TAPE_BYTES = 8, TAPE_GAP = 255, TAPE_END = 254;

    private static final int ABOVE = 0, BELOW = 1;
    private static final int GROUP_SIZE = 0, GROUP_SUM = 1, GROUP_AWAY = 2;

    /** Divisible by 1 .. 8, so that every mean of JUDGES, and so every CUT, is whole in these. */
    private static final int CUT_PARTS = 840;

    /** Euclid's steps on longs are fewer than a hundred. */
    private static final int DIVISOR_STEPS = 200;

    private int questionCount, paperCount, pupilCount;
    private int struckSet, trialSet;
    private final int[] kinds = new int[QUESTIONS];
    private final int[] mosts = new int[QUESTIONS];
    private final int[] keys = new int[QUESTIONS];
    private final int[] paperSizes = new int[PAPERS];
    private final int[] paperSets = new int[PAPERS];
    private final int[] paperRows = new int[PAPERS * SPOTS];
    private final int[] pupilPapers = new int[PUPILS];
    private final int[] pupilPlaces = new int[PUPILS];
    private final int[] answers = new int[PUPILS * SPOTS];
    private final int[] told = new int[PAPERS * SPOTS * JUDGES];

    /** Rows that calls fill anew and use at once, so that no call makes an object. */
    private final int[] values = new int[PUPILS];
    private final int[] cameAt = new int[PLACES];
    private final int[] fullAt = new int[PLACES];

    public ExamScales() {
        Arrays.fill(answers, GAP);
        Arrays.fill(told, UNTOLD);
    }

    // ---- questions and papers

    public int question(int kind, int most, int key) {
        if (kind < 0 || kind > TRIAL || most < 1 || most > GREATEST_MOST) {
            return BAD;
        }
        if (kind == CHOICE ? !isKey(key) : key != 0) {
            return BAD;
        }
        if (questionCount >= QUESTIONS) {
            return FULL;
        }
        int q = questionCount;
        kinds[q] = kind;
        mosts[q] = most;
        keys[q] = key;
        if (kind == TRIAL) {
            trialSet |= 1 << q;
        }
        questionCount++;
        return q;
    }

    public int key(int q, int key) {
        if (!isQuestion(q)) {
            return NONE;
        }
        if (!isKey(key)) {
            return BAD;
        }
        if (kinds[q] != CHOICE) {
            return STATE;
        }
        int was = keys[q];
        keys[q] = key;
        return was;
    }

    public int strike(int q, int is) {
        if (!isQuestion(q)) {
            return NONE;
        }
        if (is != 0 && is != 1) {
            return BAD;
        }
        int was = isIn(struckSet, q) ? 1 : 0;
        struckSet = struckSet & ~(1 << q) | is << q;
        return was;
    }

    public int paper() {
        if (paperCount >= PAPERS) {
            return FULL;
        }
        int paper = paperCount;
        paperCount++;
        return paper;
    }

    public int put(int paper, int q) {
        if (!isPaper(paper) || !isQuestion(q)) {
            return NONE;
        }
        if (isIn(paperSets[paper], q) || hasPupil(paper)) {
            return STATE;
        }
        int spot = paperSizes[paper];
        if (spot >= SPOTS) {
            return FULL;
        }
        paperRows[paper * SPOTS + spot] = q;
        paperSets[paper] |= 1 << q;
        paperSizes[paper]++;
        return spot;
    }

    public int at(int paper, int i) {
        if (!isPaper(paper) || i < 0 || i >= paperSizes[paper]) {
            return NONE;
        }
        return paperRows[paper * SPOTS + i];
    }

    // ---- pupils and answers

    public int pupil(int paper, int place) {
        if (!isPaper(paper) || !isPlace(place)) {
            return NONE;
        }
        if (pupilCount >= PUPILS) {
            return FULL;
        }
        int pupil = pupilCount;
        pupilPapers[pupil] = paper;
        pupilPlaces[pupil] = place;
        pupilCount++;
        return pupil;
    }

    public int answer(int pupil, int q, int a) {
        int spot = spotFor(pupil, q);
        if (spot == NONE) {
            return NONE;
        }
        if (!isAnswer(q, a)) {
            return BAD;
        }
        answers[pupil * SPOTS + spot] = a;
        return worth(q, a);
    }

    public int gap(int pupil, int q) {
        int spot = spotFor(pupil, q);
        if (spot == NONE) {
            return NONE;
        }
        int was = answers[pupil * SPOTS + spot];
        answers[pupil * SPOTS + spot] = GAP;
        return was;
    }

    public int row(int pupil, long w) {
        if (!isPupil(pupil)) {
            return NONE;
        }
        int paper = pupilPapers[pupil];
        int end = Math.min(TAPE_BYTES, paperSizes[paper]);
        for (int i = 0; i < end; i++) {
            int next = (int) (w >>> 8 * (TAPE_BYTES - 1 - i)) & 255;
            boolean isGap = next == TAPE_GAP;
            if (next == TAPE_END || !isGap && !isAnswer(paperRows[paper * SPOTS + i], next)) {
                return i;
            }
            answers[pupil * SPOTS + i] = isGap ? GAP : next;
        }
        return end;
    }

    public int mark(int pupil, int q) {
        int spot = spotFor(pupil, q);
        return spot == NONE ? NONE : markAt(pupil, spot);
    }

    public int come(int pupil, int q) {
        int spot = spotFor(pupil, q);
        if (spot == NONE) {
            return NONE;
        }
        return hasComeTo(pupil, spot) ? 1 : 0;
    }

    public int total(int pupil) {
        return isPupil(pupil) ? sumOver(pupil, countingSet()) : NONE;
    }

    // ---- questions judged

    public long easy(int q, int what) {
        if (!isQuestion(q) || !isPart(what)) {
            return NO;
        }
        long n = 0, marks = 0;
        for (int pupil = 0; pupil < pupilCount; pupil++) {
            int spot = spotComeTo(pupil, q);
            if (spot != NONE) {
                n++;
                marks += markAt(pupil, spot);
            }
        }
        return n == 0 ? fraction(0, 1, what) : fraction(marks, mosts[q] * n, what);
    }

    public long sharp(int q) {
        if (!isQuestion(q)) {
            return NO;
        }
        int others = countingSet() & ~(1 << q);
        long n = 0, marks = 0, rests = 0, products = 0;
        for (int pupil = 0; pupil < pupilCount; pupil++) {
            int spot = spotComeTo(pupil, q);
            if (spot != NONE) {
                long mark = markAt(pupil, spot);
                long rest = sumOver(pupil, others);
                n++;
                marks += mark;
                rests += rest;
                products += mark * rest;
            }
        }
        return n * products - marks * rests;
    }

    public int leaky(int q, int place, int bar) {
        if (!isQuestion(q) || !isPlace(place)) {
            return NONE;
        }
        if (!isBar(bar)) {
            return BAD;
        }
        tallyPlaces(q);
        return isLeakyByTally(place, bar) ? 1 : 0;
    }

    public int leak(int bar, int i) {
        if (i < 0) {
            return NONE;
        }
        if (!isBar(bar)) {
            return BAD;
        }
        int found = 0;
        for (int q = 0; q < questionCount; q++) {
            tallyPlaces(q);
            for (int place = 0; place < PLACES; place++) {
                if (isLeakyByTally(place, bar)) {
                    if (found == i) {
                        return PLACES * q + place;
                    }
                    found++;
                }
            }
        }
        return NONE;
    }

    // ---- scales

    public int shared(int p, int q) {
        if (!isPaper(p) || !isPaper(q)) {
            return NONE;
        }
        return p == q ? BAD : Integer.bitCount(sharedSet(p, q));
    }

    public int sum(int pupil, int q) {
        if (!isPupil(pupil) || !isPaper(q)) {
            return NONE;
        }
        int own = pupilPapers[pupil];
        return own == q ? BAD : sumOver(pupil, sharedSet(own, q));
    }

    public long group(int p, int q, int what) {
        if (!isPaper(p) || !isPaper(q)) {
            return NO;
        }
        // a paper shares all its counting questions with itself: these sums are its totals
        int n = gatherSums(p, sharedSet(p, q));
        switch (what) {
            case GROUP_SIZE:
                return n;
            case GROUP_SUM:
                return sumOfValues(n);
            case GROUP_AWAY:
                return awayOfValues(n);
            default:
                return NO;
        }
    }

    public long scale(int p, int q, int t, int what) {
        if (!isPaper(p) || !isPaper(q) || p == q || !isTotal(t) || !isPart(what)) {
            return NO;
        }
        long n = group(p, p, GROUP_SIZE), totalAway = group(p, p, GROUP_AWAY);
        long m = group(q, q, GROUP_SIZE), sharedAway = group(q, p, GROUP_AWAY);
        if (n == 0 || m == 0 || sharedSet(p, q) == 0 || totalAway == 0 || sharedAway == 0) {
            return NO;
        }
        // within one group DISTANCE by DISTANCE is AWAY by AWAY; no number here comes near 2^60
        long below = n * totalAway;
        long above = group(p, q, GROUP_SUM) * totalAway
                + (t * n - group(p, p, GROUP_SUM)) * group(p, q, GROUP_AWAY);
        long farther = above * m - group(q, p, GROUP_SUM) * below;
        long all = group(q, q, GROUP_SUM) * sharedAway * below + farther * group(q, q, GROUP_AWAY);
        return fraction(all, m * sharedAway * below, what);
    }

    public int rank(int paper, int v) {
        if (!isPaper(paper) || !hasPupil(paper)) {
            return NONE;
        }
        return rankInValues(gatherSums(paper, countingSet()), v);
    }

    public int like(int p, int q, int t) {
        if (!isPaper(p) || !isPaper(q) || !isTotal(t) || !hasPupil(p) || !hasPupil(q)) {
            return NONE;
        }
        int n = gatherSums(p, countingSet());
        int rank = rankInValues(n, t);
        int m = gatherSums(q, countingSet());
        int least = GREATEST_TOTAL + 1, greatest = 0;
        for (int i = 0; i < m; i++) {
            greatest = Math.max(greatest, values[i]);
            if (rankInValues(m, values[i]) * n >= rank * m) {
                least = Math.min(least, values[i]);
            }
        }
        return Math.min(least, greatest);
    }

    // ---- cuts

    public int judge(int j, int paper, int q, int v) {
        if (j < 0 || j >= JUDGES || !isPaper(paper) || !isQuestion(q)) {
            return NONE;
        }
        int spot = spotOf(paper, q);
        if (spot == NONE) {
            return NONE;
        }
        if (v < UNTOLD || v > mosts[q]) {
            return BAD;
        }
        int slot = (paper * SPOTS + spot) * JUDGES + j;
        int was = told[slot];
        told[slot] = v;
        return was;
    }

    public long cut(int paper, int what) {
        if (!isPaper(paper) || !isPart(what)) {
            return NO;
        }
        return fraction(cutParts(paper), CUT_PARTS, what);
    }

    public int passes(int pupil) {
        if (!isPupil(pupil)) {
            return NONE;
        }
        return isPassing(pupil) ? 1 : 0;
    }

    public int border(int paper, int d) {
        if (!isPaper(paper)) {
            return NONE;
        }
        if (d < 0) {
            return BAD;
        }
        long cut = cutParts(paper);
        // a long, as d may be any int
        long farthest = (long) d * CUT_PARTS;
        int n = gatherSums(paper, countingSet());
        int found = 0;
        for (int i = 0; i < n; i++) {
            if (Math.abs(values[i] * CUT_PARTS - cut) <= farthest) {
                found++;
            }
        }
        return found;
    }

    public int alike(int a, int b) {
        if (!isPupil(a) || !isPupil(b)) {
            return NONE;
        }
        if (a == b || pupilPapers[a] != pupilPapers[b]) {
            return BAD;
        }
        return sameWrongs(a, b);
    }

    public int pair(int paper, int m, int i) {
        if (!isPaper(paper) || i < 0) {
            return NONE;
        }
        if (m < 1) {
            return BAD;
        }
        int found = 0;
        for (int a = 0; a < pupilCount; a++) {
            for (int b = a + 1; b < pupilCount; b++) {
                if (areAlikeOf(paper, a, b, m)) {
                    if (found == i) {
                        return PAIR_BASE * a + b;
                    }
                    found++;
                }
            }
        }
        return NONE;
    }

    public int count(int what) {
        switch (what) {
            case 0:
                return questionCount;
            case 1:
                return paperCount;
            case 2:
                return pupilCount;
            case 3:
                return countAnswers();
            case 4:
                return Integer.bitCount(struckSet);
            case 5:
                return countPassing();
            default:
                return NONE;
        }
    }

    // ---- what is there

    private boolean isQuestion(int q) {
        return q >= 0 && q < questionCount;
    }

    private boolean isPaper(int paper) {
        return paper >= 0 && paper < paperCount;
    }

    private boolean isPupil(int pupil) {
        return pupil >= 0 && pupil < pupilCount;
    }

    private static boolean isPlace(int place) {
        return place >= 0 && place < PLACES;
    }

    private static boolean isKey(int key) {
        return key >= 1 && key <= GREATEST_KEY;
    }

    private static boolean isBar(int bar) {
        return bar >= 1 && bar <= HUNDREDTHS;
    }

    private static boolean isTotal(int t) {
        return t >= 0 && t <= GREATEST_TOTAL;
    }

    private static boolean isPart(int what) {
        return what == ABOVE || what == BELOW;
    }

    private boolean isAnswer(int q, int a) {
        int greatest = mosts[q];
        if (kinds[q] == CHOICE) {
            greatest = GREATEST_OPTION;
        } else if (kinds[q] == STEPS) {
            greatest = (1 << mosts[q]) - 1;
        }
        return a >= 0 && a <= greatest;
    }

    private boolean hasPupil(int paper) {
        for (int pupil = 0; pupil < pupilCount; pupil++) {
            if (pupilPapers[pupil] == paper) {
                return true;
            }
        }
        return false;
    }

    // ---- sets of questions

    private static boolean isIn(int set, int q) {
        return (set >> q & 1) == 1;
    }

    private int countingSet() {
        return ~(struckSet | trialSet);
    }

    private int sharedSet(int p, int q) {
        return paperSets[p] & paperSets[q] & countingSet();
    }

    private int spotOf(int paper, int q) {
        if (!isIn(paperSets[paper], q)) {
            return NONE;
        }
        for (int spot = 0; spot < paperSizes[paper]; spot++) {
            if (paperRows[paper * SPOTS + spot] == q) {
                return spot;
            }
        }
        return NONE;
    }

    private int spotFor(int pupil, int q) {
        if (!isPupil(pupil) || !isQuestion(q)) {
            return NONE;
        }
        return spotOf(pupilPapers[pupil], q);
    }

    // ---- marks

    private int worth(int q, int a) {
        if (kinds[q] == CHOICE) {
            return isIn(keys[q], a) ? mosts[q] : 0;
        }
        return kinds[q] == STEPS ? stepsInRow(a) : a;
    }

    private static int stepsInRow(int steps) {
        int n = 0;
        while (n < GREATEST_MOST && (steps >> n & 1) == 1) {
            n++;
        }
        return n;
    }

    private int markAt(int pupil, int spot) {
        int a = answers[pupil * SPOTS + spot];
        return a == GAP ? 0 : worth(paperRows[pupilPapers[pupil] * SPOTS + spot], a);
    }

    private boolean hasComeTo(int pupil, int spot) {
        int size = paperSizes[pupilPapers[pupil]];
        for (int i = spot; i < size; i++) {
            if (answers[pupil * SPOTS + i] != GAP) {
                return true;
            }
        }
        return false;
    }

    private int spotComeTo(int pupil, int q) {
        int spot = spotFor(pupil, q);
        return spot != NONE && hasComeTo(pupil, spot) ? spot : NONE;
    }

    private int sumOver(int pupil, int set) {
        int paper = pupilPapers[pupil];
        int sum = 0;
        for (int spot = 0; spot < paperSizes[paper]; spot++) {
            if (isIn(set, paperRows[paper * SPOTS + spot])) {
                sum += markAt(pupil, spot);
            }
        }
        return sum;
    }

    // ---- leaks

    private void tallyPlaces(int q) {
        Arrays.fill(cameAt, 0);
        Arrays.fill(fullAt, 0);
        for (int pupil = 0; pupil < pupilCount; pupil++) {
            int spot = spotComeTo(pupil, q);
            if (spot != NONE) {
                cameAt[pupilPlaces[pupil]]++;
                if (markAt(pupil, spot) == mosts[q]) {
                    fullAt[pupilPlaces[pupil]]++;
                }
            }
        }
    }

    private boolean isLeakyByTally(int place, int bar) {
        int here = cameAt[place], fullHere = fullAt[place];
        int others = -here, fullOthers = -fullHere;
        for (int i = 0; i < PLACES; i++) {
            others += cameAt[i];
            fullOthers += fullAt[i];
        }
        return here > 0 && others > 0
                && HUNDREDTHS * (fullHere * others - fullOthers * here) > bar * here * others;
    }

    // ---- rows of values

    private int gatherSums(int paper, int set) {
        int n = 0;
        for (int pupil = 0; pupil < pupilCount; pupil++) {
            if (pupilPapers[pupil] == paper) {
                values[n] = sumOver(pupil, set);
                n++;
            }
        }
        return n;
    }

    private long sumOfValues(int n) {
        long sum = 0;
        for (int i = 0; i < n; i++) {
            sum += values[i];
        }
        return sum;
    }

    private long awayOfValues(int n) {
        long sum = sumOfValues(n);
        long away = 0;
        for (int i = 0; i < n; i++) {
            away += Math.abs(n * values[i] - sum);
        }
        return away;
    }

    private int rankInValues(int n, int v) {
        int rank = 0;
        for (int i = 0; i < n; i++) {
            if (values[i] < v) {
                rank += 2;
            } else if (values[i] == v) {
                rank++;
            }
        }
        return rank;
    }

    // ---- judges and likeness

    private int cutParts(int paper) {
        int counting = countingSet();
        int parts = 0;
        for (int spot = 0; spot < paperSizes[paper]; spot++) {
            if (isIn(counting, paperRows[paper * SPOTS + spot])) {
                parts += meanParts(paper * SPOTS + spot);
            }
        }
        return parts;
    }

    private int meanParts(int rowSlot) {
        int n = 0, sum = 0;
        for (int j = 0; j < JUDGES; j++) {
            int v = told[rowSlot * JUDGES + j];
            if (v != UNTOLD) {
                n++;
                sum += v;
            }
        }
        return n == 0 ? 0 : sum * (CUT_PARTS / n);
    }

    private boolean isPassing(int pupil) {
        return sumOver(pupil, countingSet()) * CUT_PARTS >= cutParts(pupilPapers[pupil]);
    }

    private int countPassing() {
        int passing = 0;
        for (int pupil = 0; pupil < pupilCount; pupil++) {
            if (isPassing(pupil)) {
                passing++;
            }
        }
        return passing;
    }

    private int countAnswers() {
        int given = 0;
        for (int i = 0; i < pupilCount * SPOTS; i++) {
            if (answers[i] != GAP) {
                given++;
            }
        }
        return given;
    }

    private boolean areAlikeOf(int paper, int a, int b, int m) {
        return pupilPapers[a] == paper && pupilPapers[b] == paper && sameWrongs(a, b) >= m;
    }

    private int sameWrongs(int a, int b) {
        int paper = pupilPapers[a];
        int same = 0;
        for (int spot = 0; spot < paperSizes[paper]; spot++) {
            int given = answers[a * SPOTS + spot];
            if (given != GAP && given == answers[b * SPOTS + spot]
                    && markAt(a, spot) < mosts[paperRows[paper * SPOTS + spot]]) {
                same++;
            }
        }
        return same;
    }

    // ---- fractions

    private static long fraction(long above, long below, int what) {
        long divisor = commonDivisor(Math.abs(above), below);
        if (divisor <= 0) {
            return NO;
        }
        return (what == ABOVE ? above : below) / divisor;
    }

    private static long commonDivisor(long a, long b) {
        long divisor = a, rest = b;
        for (int i = 0; i < DIVISOR_STEPS && rest != 0; i++) {
            long next = divisor % rest;
            divisor = rest;
            rest = next;
        }
        return divisor;
    }
}
