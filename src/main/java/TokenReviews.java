/**
 * Reviewers' attention: tokens, papers, reviews, discussions, rebuttals and decisions.
 * The document ../shared/DOC.md says what each call does.
 */
public final class TokenReviews {
    public static final int NONE = -1;

    private static final int PERSONS = 8;
    private static final int PAPERS = 8;
    private static final int ALL_PERSONS = 255;
    private static final int TOPICS = 4;
    private static final int ALL_TOPICS = 15;

    private static final int SETTINGS = 4;
    private static final int REVIEWS_DUE = 0;
    private static final int REACH = 1;
    private static final int WEEKLY = 2;
    private static final int REBUTTAL_GAIN = 3;
    private static final int[] FIRST_VALUES = {3, 1, 4, 1};
    private static final int[] LEAST_VALUES = {1, 0, 0, 0};
    private static final int[] GREATEST_VALUES = {4, 2, 9, 3};

    private static final int FIRST_POOL = 100;
    private static final int MOST_AT_ONCE = 999;
    private static final int MOST_BROUGHT = 9999;
    private static final int MOST_WEEKS = 999;
    private static final int PRICE = 2;
    private static final int DROP_RETURN = 1;

    private static final int BEST_SCORE = 9;
    private static final int UNWRITTEN = 10;
    private static final int PASSING_MEAN = 6;
    private static final int ANSWER_IF_DONE = 10;
    private static final int MOST_ROUNDS = 20;

    private static final int UNDECIDED = 0;
    private static final int TURNED_DOWN = 1;
    private static final int TAKEN_ON = 2;

    private static final int SLOTS = 2;
    private static final int SAVED_STATES = 6;
    private static final int BUFFER_SIZE = 60;

    private static final int COUNTS = 12;
    private static final int PERSON_PROPERTIES = 9;
    private static final int PAPER_PROPERTIES = 10;
    private static final long FIRST_HASH = 3449L;

    private final State now;
    private final History history;
    private final State[] slots;
    private final Text text;
    private final Matching matching;
    private final int[] talk;

    public TokenReviews() {
        now = new State();
        history = new History();
        slots = new State[SLOTS];
        text = new Text();
        matching = new Matching();
        talk = new int[PERSONS];
    }

    // ---- persons, papers

    public int paper(int topic, int authors) throws IllegalArgumentException, IllegalStateException {
        if (topic < 0 || topic >= TOPICS) {
            throw new IllegalArgumentException("topic is not 0 to 3");
        }
        if (authors < 1 || authors > ALL_PERSONS) {
            throw new IllegalArgumentException("authors is not 1 to 255");
        }
        int number = now.papers;
        if (number < 0 || number >= PAPERS) {
            throw new IllegalStateException("there are 8 papers");
        }
        history.save(now);
        now.topicOf[number] = topic;
        now.authorsOf[number] = authors;
        now.papers = number + 1;
        return number;
    }

    public int topics(int person, int topics) throws IndexOutOfBoundsException, IllegalArgumentException {
        requirePerson(person);
        if (topics < 0 || topics > ALL_TOPICS) {
            throw new IllegalArgumentException("topics is not 0 to 15");
        }
        history.save(now);
        int before = now.topicsOf[person];
        now.topicsOf[person] = topics;
        return before;
    }

    public int meet(int person, int other) throws IndexOutOfBoundsException, IllegalArgumentException {
        requirePerson(person);
        requirePerson(other);
        if (person == other) {
            throw new IllegalArgumentException("both persons are the same");
        }
        history.save(now);
        now.worked[person] ^= 1 << other;
        now.worked[other] ^= 1 << person;
        return has(now.worked[person], other) ? 1 : 0;
    }

    public int set(int setting, int value) throws IndexOutOfBoundsException, IllegalArgumentException {
        requireSetting(setting);
        if (value < LEAST_VALUES[setting] || value > GREATEST_VALUES[setting]) {
            throw new IllegalArgumentException("value is out of range");
        }
        history.save(now);
        int before = now.settings[setting];
        now.settings[setting] = value;
        return before;
    }

    // ---- tokens

    public int bring(int tokens) throws IllegalArgumentException, IllegalStateException {
        if (tokens < 1 || tokens > MOST_AT_ONCE) {
            throw new IllegalArgumentException("tokens is not 1 to 999");
        }
        if (now.brought + tokens > MOST_BROUGHT) {
            throw new IllegalStateException("more than 9999 tokens would have been brought");
        }
        history.save(now);
        now.brought += tokens;
        now.pool += tokens;
        return now.pool;
    }

    public int week() throws IllegalStateException {
        if (!canWeekPass()) {
            throw new IllegalStateException("999 weeks went by");
        }
        history.save(now);
        return passWeek();
    }

    // ---- reviews

    public int take(int person, int paper) throws IndexOutOfBoundsException {
        requirePerson(person);
        requirePaper(paper);
        history.save(now);
        return takeReview(person, paper);
    }

    public int write(int person, int paper, int score)
            throws IndexOutOfBoundsException, IllegalArgumentException, IllegalStateException {
        requirePerson(person);
        requirePaper(paper);
        if (!isScore(score)) {
            throw new IllegalArgumentException("score is not 0 to 9");
        }
        if (!canWrite(person, paper)) {
            throw new IllegalStateException("no review to write, or the paper is decided");
        }
        history.save(now);
        return writeReview(person, paper, score);
    }

    public int drop(int person, int paper) throws IndexOutOfBoundsException, IllegalStateException {
        requirePerson(person);
        requirePaper(paper);
        if (!canDrop(person, paper)) {
            throw new IllegalStateException("no review that is not written");
        }
        history.save(now);
        return dropReview(person, paper);
    }

    public int discuss(int paper) throws IndexOutOfBoundsException {
        requirePaper(paper);
        history.save(now);
        return discussPaper(paper);
    }

    public int rebut(int paper) throws IndexOutOfBoundsException {
        requirePaper(paper);
        history.save(now);
        return rebutPaper(paper);
    }

    public int decide(int paper) throws IndexOutOfBoundsException, IllegalStateException {
        requirePaper(paper);
        if (!canDecide(paper)) {
            throw new IllegalStateException("the paper is decided, or cannot be decided");
        }
        history.save(now);
        int[] row = now.scores[paper];
        boolean good = sumIn(row) >= PASSING_MEAN * Integer.bitCount(writersIn(row));
        now.verdict[paper] = good ? TAKEN_ON : TURNED_DOWN;
        return good ? 1 : 0;
    }

    // ---- texts, snapshots

    public int append(int code) throws IllegalArgumentException, IllegalStateException {
        if (code < 33 || code > 126) {
            throw new IllegalArgumentException("code is not 33 to 126");
        }
        int length = text.length;
        if (length < 0 || length >= BUFFER_SIZE) {
            throw new IllegalStateException("the buffer has 60 characters");
        }
        text.codes[length] = code;
        text.length = length + 1;
        return text.length;
    }

    public int clearBuffer() {
        int before = text.length;
        text.length = 0;
        return before;
    }

    public int firstError() {
        return text.firstWrong();
    }

    public int run() throws IllegalArgumentException {
        if (!text.isWeek()) {
            throw new IllegalArgumentException("the buffer does not tell a week as a text");
        }
        history.save(now);
        int done = doOrders();
        text.length = 0;
        return done;
    }

    public int keep(int slot) throws IllegalArgumentException {
        requireSlot(slot);
        State snapshot = slots[slot];
        if (snapshot == null) {
            snapshot = new State();
            slots[slot] = snapshot;
        }
        snapshot.become(now);
        return now.papers;
    }

    public int goBack(int slot) throws IllegalArgumentException, IllegalStateException {
        requireSlot(slot);
        State snapshot = slots[slot];
        if (snapshot == null) {
            throw new IllegalStateException("there is no snapshot in the slot");
        }
        history.save(now);
        now.become(snapshot);
        return now.papers;
    }

    public int undo() throws IllegalStateException {
        State latest = history.latest();
        if (latest == null) {
            throw new IllegalStateException("there is no saved state");
        }
        now.become(latest);
        history.dropLatest();
        return history.size;
    }

    // ---- looks; nothing is changed

    public int personOf(int person, int what) throws IndexOutOfBoundsException, IllegalArgumentException {
        requirePerson(person);
        if (what < 0 || what >= PERSON_PROPERTIES) {
            throw new IllegalArgumentException("what is not 0 to 8");
        }
        return personProperty(person, what);
    }

    public int paperOf(int paper, int what) throws IndexOutOfBoundsException, IllegalArgumentException {
        requirePaper(paper);
        if (what < 0 || what >= PAPER_PROPERTIES) {
            throw new IllegalArgumentException("what is not 0 to 9");
        }
        return paperProperty(paper, what);
    }

    public int score(int person, int paper) throws IndexOutOfBoundsException {
        requirePerson(person);
        requirePaper(paper);
        return now.scores[paper][person];
    }

    public int count(int what) throws IllegalArgumentException {
        if (what < 0 || what >= COUNTS) {
            throw new IllegalArgumentException("what is not 0 to 11");
        }
        return number(what);
    }

    public int setting(int setting) throws IndexOutOfBoundsException {
        requireSetting(setting);
        return now.settings[setting];
    }

    // ---- what would be; nothing is changed

    public int whyNot(int person, int paper) throws IndexOutOfBoundsException {
        requirePerson(person);
        requirePaper(paper);
        return reasonAgainstTaking(person, paper);
    }

    public int bestReviewer(int paper) throws IndexOutOfBoundsException {
        requirePaper(paper);
        return bestPersonFor(paper);
    }

    public int most(int what) throws IllegalArgumentException {
        if (what < 0 || what > 1) {
            throw new IllegalArgumentException("what is not 0 or 1");
        }
        readMatching();
        return what == 0 ? matching.byWays(NONE) : matching.byCuts();
    }

    public int needed() {
        readMatching();
        return neededPerson();
    }

    public int roundsToAgree(int paper) throws IndexOutOfBoundsException {
        requirePaper(paper);
        return roundsFor(paper);
    }

    public double meanScore(int paper) throws IndexOutOfBoundsException {
        requirePaper(paper);
        return meanIn(now.scores[paper]);
    }

    public float spentShare() {
        return shareOfSpent();
    }

    public long digest() {
        long hash = FIRST_HASH;
        for (int what = 0; what < COUNTS; what++) {
            hash = 31 * hash + number(what);
        }
        for (int setting = 0; setting < SETTINGS; setting++) {
            hash = 31 * hash + now.settings[setting];
        }
        for (int person = 0; person < PERSONS; person++) {
            for (int what = 0; what < PERSON_PROPERTIES; what++) {
                hash = 31 * hash + personProperty(person, what);
            }
        }
        for (int paper = 0; paper < PAPERS && paper < now.papers; paper++) {
            hash = hashWithPaper(hash, paper);
        }
        readMatching();
        hash = 31 * hash + matching.byWays(NONE);
        hash = 31 * hash + matching.byCuts();
        hash = 31 * hash + neededPerson();
        hash = 31 * hash + floatBits(shareOfSpent());
        for (int slot = 0; slot < SLOTS; slot++) {
            hash = 31 * hash + (slots[slot] == null ? 0 : 1);
        }
        return text.hashWithText(hash);
    }

    // ---- what a call asks for ahead of all

    private static void requirePerson(int person) {
        if (person < 0 || person >= PERSONS) {
            throw new IndexOutOfBoundsException("there is no such person");
        }
    }

    private void requirePaper(int paper) {
        if (!isPaper(paper)) {
            throw new IndexOutOfBoundsException("there is no such paper");
        }
    }

    private static void requireSetting(int setting) {
        if (setting < 0 || setting >= SETTINGS) {
            throw new IndexOutOfBoundsException("there is no such setting");
        }
    }

    private static void requireSlot(int slot) {
        if (slot < 0 || slot >= SLOTS) {
            throw new IllegalArgumentException("slot is not 0 or 1");
        }
    }

    private boolean isPaper(int paper) {
        return paper >= 0 && paper < PAPERS && paper < now.papers;
    }

    private static boolean isScore(int score) {
        return score >= 0 && score <= BEST_SCORE;
    }

    private static boolean has(int mask, int bit) {
        return (mask >> bit & 1) == 1;
    }

    // ---- tokens and conflicts

    private boolean canWeekPass() {
        return now.weeks < MOST_WEEKS;
    }

    private int passWeek() {
        int share = now.settings[WEEKLY];
        int given = 0;
        for (int person = 0; person < PERSONS; person++) {
            if (now.pool >= share) {
                giveFromPool(person, share);
                given += share;
            }
        }
        now.weeks++;
        return given;
    }

    private void giveFromPool(int person, int tokens) {
        now.pool -= tokens;
        now.got[person] += tokens;
    }

    private int tokensOf(int person) {
        return now.got[person] - now.spent[person];
    }

    private int allSpent() {
        int sum = 0;
        for (int person = 0; person < PERSONS; person++) {
            sum += now.spent[person];
        }
        return sum;
    }

    private int allTokens() {
        int sum = 0;
        for (int person = 0; person < PERSONS; person++) {
            sum += tokensOf(person);
        }
        return sum;
    }

    private float shareOfSpent() {
        int came = FIRST_POOL + now.brought;
        return came > 0 ? (float) allSpent() / (float) came : 0.0f;
    }

    /** The persons with a conflict: each step of the reach adds all who worked with one of them. */
    private int personsInConflict(int paper) {
        int persons = now.authorsOf[paper];
        for (int step = 0; step < now.settings[REACH]; step++) {
            persons |= workedWithSome(persons);
        }
        return persons;
    }

    private int workedWithSome(int persons) {
        int found = 0;
        for (int person = 0; person < PERSONS; person++) {
            if (has(persons, person)) {
                found |= now.worked[person];
            }
        }
        return found;
    }

    private int papersInConflict(int person) {
        int papers = 0;
        for (int paper = 0; paper < PAPERS && paper < now.papers; paper++) {
            if (has(personsInConflict(paper), person)) {
                papers |= 1 << paper;
            }
        }
        return papers;
    }

    private int pairsWorked() {
        int ends = 0;
        for (int person = 0; person < PERSONS; person++) {
            ends += Integer.bitCount(now.worked[person]);
        }
        return ends / 2;
    }

    // ---- the orders, once their arguments are looked at

    private int takeReview(int person, int paper) {
        int reason = reasonAgainstTaking(person, paper);
        if (reason != 0) {
            return refuse(reason);
        }
        now.scores[paper][person] = UNWRITTEN;
        now.spent[person] += PRICE;
        return 0;
    }

    private int refuse(int reason) {
        now.refused++;
        return reason;
    }

    private int reasonAgainstTaking(int person, int paper) {
        int[] row = now.scores[paper];
        if (now.verdict[paper] != UNDECIDED) {
            return 1;
        }
        if (row[person] != NONE) {
            return 2;
        }
        if (Integer.bitCount(reviewersIn(row)) >= now.settings[REVIEWS_DUE]) {
            return 3;
        }
        if (has(personsInConflict(paper), person)) {
            return 4;
        }
        if (!has(now.topicsOf[person], now.topicOf[paper])) {
            return 5;
        }
        return tokensOf(person) < PRICE ? 6 : 0;
    }

    private boolean canWrite(int person, int paper) {
        return now.scores[paper][person] != NONE && now.verdict[paper] == UNDECIDED;
    }

    private int writeReview(int person, int paper, int score) {
        int[] row = now.scores[paper];
        row[person] = score;
        return Integer.bitCount(writersIn(row));
    }

    private boolean canDrop(int person, int paper) {
        return now.scores[paper][person] == UNWRITTEN;
    }

    private int dropReview(int person, int paper) {
        now.scores[paper][person] = NONE;
        now.spent[person] -= DROP_RETURN;
        now.dropped[person]++;
        return tokensOf(person);
    }

    private int discussPaper(int paper) {
        int reason = reasonAgainstDiscussion(paper);
        if (reason != 0) {
            return refuse(reason);
        }
        int[] row = now.scores[paper];
        int writers = writersIn(row);
        for (int person = 0; person < PERSONS; person++) {
            if (has(writers, person)) {
                now.spent[person]++;
            }
        }
        now.discussions[paper]++;
        return ANSWER_IF_DONE + bringNearer(row);
    }

    private int reasonAgainstDiscussion(int paper) {
        if (now.verdict[paper] != UNDECIDED) {
            return 1;
        }
        int writers = writersIn(now.scores[paper]);
        if (Integer.bitCount(writers) < 2) {
            return 2;
        }
        for (int person = 0; person < PERSONS; person++) {
            if (has(writers, person) && tokensOf(person) < 1) {
                return 3;
            }
        }
        return 0;
    }

    private int rebutPaper(int paper) {
        int reason = reasonAgainstRebuttal(paper);
        if (reason != 0) {
            return refuse(reason);
        }
        int[] row = now.scores[paper];
        raiseLeast(row, now.settings[REBUTTAL_GAIN]);
        now.rebutted[paper] = 1;
        return ANSWER_IF_DONE + giveCredit(writersIn(row));
    }

    private int reasonAgainstRebuttal(int paper) {
        if (now.verdict[paper] != UNDECIDED) {
            return 1;
        }
        if (writersIn(now.scores[paper]) == 0) {
            return 2;
        }
        return now.rebutted[paper] != 0 ? 3 : 0;
    }

    private int giveCredit(int persons) {
        int given = 0;
        for (int person = 0; person < PERSONS; person++) {
            if (has(persons, person) && now.pool > 0) {
                giveFromPool(person, 1);
                given++;
            }
        }
        return given;
    }

    /** Also 0 for a paper that is decided already: it cannot be decided now. */
    private boolean canDecide(int paper) {
        int[] row = now.scores[paper];
        int writers = writersIn(row);
        return now.verdict[paper] == UNDECIDED
                && Integer.bitCount(writers) >= now.settings[REVIEWS_DUE]
                && writers == reviewersIn(row);
    }

    private int doOrders() {
        int at = 0;
        for (int done = 0; done < BUFFER_SIZE; done++) {
            if (at >= text.length || !doOrder(at)) {
                return done;
            }
            at += text.orderSize(at) + 1;
        }
        return BUFFER_SIZE;
    }

    /** The text is well formed; the answer is whether the order is done. */
    private boolean doOrder(int at) {
        int person = text.digit(at + 1);
        int paper = text.digit(at + 2);
        switch (text.code(at)) {
            case 't':
                return isPaper(paper) && takeReview(person, paper) == 0;
            case 's':
                if (!isPaper(paper) || !canWrite(person, paper)) {
                    return false;
                }
                writeReview(person, paper, text.digit(at + 4));
                return true;
            case 'x':
                if (!isPaper(paper) || !canDrop(person, paper)) {
                    return false;
                }
                dropReview(person, paper);
                return true;
            case 'd':
                return isPaper(person) && discussPaper(person) >= ANSWER_IF_DONE;
            case 'r':
                return isPaper(person) && rebutPaper(person) >= ANSWER_IF_DONE;
            case 'w':
                if (!canWeekPass()) {
                    return false;
                }
                passWeek();
                return true;
            default:
                return false;
        }
    }

    // ---- the scores of one paper, a place for each person

    private static int reviewersIn(int[] row) {
        int mask = 0;
        for (int person = 0; person < row.length; person++) {
            if (row[person] != NONE) {
                mask |= 1 << person;
            }
        }
        return mask;
    }

    private static int writersIn(int[] row) {
        int mask = 0;
        for (int person = 0; person < row.length; person++) {
            if (isScore(row[person])) {
                mask |= 1 << person;
            }
        }
        return mask;
    }

    private static int sumIn(int[] row) {
        int sum = 0;
        for (int person = 0; person < row.length; person++) {
            if (isScore(row[person])) {
                sum += row[person];
            }
        }
        return sum;
    }

    private static int spreadIn(int[] row) {
        int least = BEST_SCORE;
        int greatest = 0;
        for (int person = 0; person < row.length; person++) {
            if (isScore(row[person])) {
                least = Math.min(least, row[person]);
                greatest = Math.max(greatest, row[person]);
            }
        }
        return Math.max(0, greatest - least);
    }

    private static double meanIn(int[] row) {
        int written = Integer.bitCount(writersIn(row));
        return written > 0 ? (double) sumIn(row) / (double) written : -1.0;
    }

    /** Moves each score by 1 towards the mean rounded down; answers how many changed. */
    private static int bringNearer(int[] row) {
        int written = Integer.bitCount(writersIn(row));
        if (written == 0) {
            return 0;
        }
        int mean = sumIn(row) / written;
        int changed = 0;
        for (int person = 0; person < row.length; person++) {
            if (isScore(row[person]) && row[person] != mean) {
                row[person] += row[person] < mean ? 1 : -1;
                changed++;
            }
        }
        return changed;
    }

    private static void raiseLeast(int[] row, int gain) {
        int lowest = NONE;
        int least = UNWRITTEN;
        for (int person = 0; person < row.length; person++) {
            if (isScore(row[person]) && row[person] < least) {
                lowest = person;
                least = row[person];
            }
        }
        if (lowest != NONE) {
            row[lowest] = Math.min(BEST_SCORE, least + gain);
        }
    }

    // ---- looks

    private int personProperty(int person, int what) {
        switch (what) {
            case 0:
                return tokensOf(person);
            case 1:
                return now.topicsOf[person];
            case 2:
                return now.worked[person];
            case 3:
                return loadOf(person);
            case 4:
                return writtenBy(person);
            case 5:
                return now.got[person];
            case 6:
                return now.spent[person];
            case 7:
                return now.dropped[person];
            default:
                return papersInConflict(person);
        }
    }

    private int loadOf(int person) {
        int load = 0;
        for (int paper = 0; paper < PAPERS; paper++) {
            if (now.scores[paper][person] != NONE && now.verdict[paper] == UNDECIDED) {
                load++;
            }
        }
        return load;
    }

    private int writtenBy(int person) {
        int written = 0;
        for (int paper = 0; paper < PAPERS; paper++) {
            if (isScore(now.scores[paper][person])) {
                written++;
            }
        }
        return written;
    }

    private int paperProperty(int paper, int what) {
        int[] row = now.scores[paper];
        switch (what) {
            case 0:
                return now.topicOf[paper];
            case 1:
                return now.authorsOf[paper];
            case 2:
                return reviewersIn(row);
            case 3:
                return writersIn(row);
            case 4:
                return sumIn(row);
            case 5:
                return spreadIn(row);
            case 6:
                return now.discussions[paper];
            case 7:
                return now.rebutted[paper];
            case 8:
                return now.verdict[paper];
            default:
                return canDecide(paper) ? 1 : 0;
        }
    }

    private int number(int what) {
        switch (what) {
            case 0:
                return now.papers;
            case 1:
                return now.weeks;
            case 2:
                return now.pool;
            case 3:
                return allSpent();
            case 4:
                return allTokens();
            case 5:
                return FIRST_POOL + now.brought;
            case 6:
                return allReviews();
            case 7:
                return allWritten();
            case 8:
                return decidedPapers();
            case 9:
                return now.refused;
            case 10:
                return pairsWorked();
            default:
                return history.size;
        }
    }

    private int allReviews() {
        int sum = 0;
        for (int paper = 0; paper < PAPERS; paper++) {
            sum += Integer.bitCount(reviewersIn(now.scores[paper]));
        }
        return sum;
    }

    private int allWritten() {
        int sum = 0;
        for (int paper = 0; paper < PAPERS; paper++) {
            sum += Integer.bitCount(writersIn(now.scores[paper]));
        }
        return sum;
    }

    private int decidedPapers() {
        int sum = 0;
        for (int paper = 0; paper < PAPERS; paper++) {
            if (now.verdict[paper] != UNDECIDED) {
                sum++;
            }
        }
        return sum;
    }

    // ---- what would be

    private int bestPersonFor(int paper) {
        int best = NONE;
        int bestLoad = 0;
        int bestTokens = 0;
        for (int person = 0; person < PERSONS; person++) {
            if (reasonAgainstTaking(person, paper) != 0) {
                continue;
            }
            int load = loadOf(person);
            int tokens = tokensOf(person);
            if (best == NONE || load < bestLoad || load == bestLoad && tokens > bestTokens) {
                best = person;
                bestLoad = load;
                bestTokens = tokens;
            }
        }
        return best;
    }

    private int roundsFor(int paper) {
        System.arraycopy(now.scores[paper], 0, talk, 0, PERSONS);
        for (int rounds = 0; rounds <= MOST_ROUNDS; rounds++) {
            if (spreadIn(talk) <= 1) {
                return rounds;
            }
            bringNearer(talk);
        }
        return NONE;
    }

    /** Tells the matching who could pay for how many reviews, and of which papers. */
    private void readMatching() {
        for (int person = 0; person < PERSONS; person++) {
            matching.payable[person] = tokensOf(person) / PRICE;
            matching.fitting[person] = 0;
        }
        for (int paper = 0; paper < PAPERS; paper++) {
            int[] row = now.scores[paper];
            int free = now.settings[REVIEWS_DUE] - Integer.bitCount(reviewersIn(row));
            boolean open = isPaper(paper) && now.verdict[paper] == UNDECIDED && free > 0;
            matching.free[paper] = open ? free : 0;
            if (open) {
                readFitting(paper, reviewersIn(row) | personsInConflict(paper));
            }
        }
    }

    private void readFitting(int paper, int barred) {
        for (int person = 0; person < PERSONS; person++) {
            if (!has(barred, person) && has(now.topicsOf[person], now.topicOf[paper])) {
                matching.fitting[person] |= 1 << paper;
            }
        }
    }

    private int neededPerson() {
        int found = 0;
        int least = matching.byWays(0);
        for (int person = 1; person < PERSONS; person++) {
            int without = matching.byWays(person);
            if (without < least) {
                found = person;
                least = without;
            }
        }
        return found;
    }

    private long hashWithPaper(long before, int paper) {
        long hash = before;
        for (int what = 0; what < PAPER_PROPERTIES; what++) {
            hash = 31 * hash + paperProperty(paper, what);
        }
        for (int person = 0; person < PERSONS; person++) {
            hash = 31 * hash + now.scores[paper][person];
        }
        hash = 31 * hash + bestPersonFor(paper);
        hash = 31 * hash + roundsFor(paper);
        return 31 * hash + doubleBits(meanIn(now.scores[paper]));
    }

    /** The library's function of these bits is not among what LANGUAGE.md lists; each step here is exact. */
    private static long doubleBits(double value) {
        if (value == 0.0) {
            return 0L;
        }
        long sign = value < 0.0 ? Long.MIN_VALUE : 0L;
        double rest = value < 0.0 ? -value : value;
        long exponent = 1023L;
        while (rest >= 2.0 && exponent < 2046L) {
            rest *= 0.5;
            exponent++;
        }
        while (rest < 1.0 && exponent > 1L) {
            rest *= 2.0;
            exponent--;
        }
        return sign | exponent << 52 | (long) ((rest - 1.0) * 4503599627370496.0);
    }

    /** As doubleBits; shares lie between 0 and 1, so there is no sign. */
    private static int floatBits(float value) {
        if (value <= 0.0f) {
            return 0;
        }
        float rest = value;
        int exponent = 127;
        while (rest >= 2.0f && exponent < 254) {
            rest *= 0.5f;
            exponent++;
        }
        while (rest < 1.0f && exponent > 1) {
            rest *= 2.0f;
            exponent--;
        }
        return exponent << 23 | (int) ((rest - 1.0f) * 8388608.0f);
    }

    /** All that a snapshot or a saved state holds. */
    private static final class State {
        final int[] topicsOf = new int[PERSONS];
        final int[] worked = new int[PERSONS];
        final int[] got = new int[PERSONS];
        final int[] spent = new int[PERSONS];
        final int[] dropped = new int[PERSONS];
        final int[] topicOf = new int[PAPERS];
        final int[] authorsOf = new int[PAPERS];
        final int[] discussions = new int[PAPERS];
        final int[] rebutted = new int[PAPERS];
        final int[] verdict = new int[PAPERS];
        final int[][] scores = new int[PAPERS][PERSONS];
        final int[] settings = new int[SETTINGS];
        int papers = 0;
        int weeks = 0;
        int pool = FIRST_POOL;
        int brought = 0;
        int refused = 0;

        State() {
            for (int person = 0; person < PERSONS; person++) {
                topicsOf[person] = ALL_TOPICS;
                for (int paper = 0; paper < PAPERS; paper++) {
                    scores[paper][person] = NONE;
                }
            }
            System.arraycopy(FIRST_VALUES, 0, settings, 0, SETTINGS);
        }

        void become(State other) {
            System.arraycopy(other.topicsOf, 0, topicsOf, 0, PERSONS);
            System.arraycopy(other.worked, 0, worked, 0, PERSONS);
            System.arraycopy(other.got, 0, got, 0, PERSONS);
            System.arraycopy(other.spent, 0, spent, 0, PERSONS);
            System.arraycopy(other.dropped, 0, dropped, 0, PERSONS);
            System.arraycopy(other.topicOf, 0, topicOf, 0, PAPERS);
            System.arraycopy(other.authorsOf, 0, authorsOf, 0, PAPERS);
            System.arraycopy(other.discussions, 0, discussions, 0, PAPERS);
            System.arraycopy(other.rebutted, 0, rebutted, 0, PAPERS);
            System.arraycopy(other.verdict, 0, verdict, 0, PAPERS);
            for (int paper = 0; paper < PAPERS; paper++) {
                System.arraycopy(other.scores[paper], 0, scores[paper], 0, PERSONS);
            }
            System.arraycopy(other.settings, 0, settings, 0, SETTINGS);
            papers = other.papers;
            weeks = other.weeks;
            pool = other.pool;
            brought = other.brought;
            refused = other.refused;
        }
    }

    /** The saved states in a ring, so that a new one takes the place of the oldest. */
    private static final class History {
        final State[] ring = new State[SAVED_STATES];
        int next = 0;
        int size = 0;

        void save(State state) {
            State place = ring[next];
            if (place == null) {
                place = new State();
                ring[next] = place;
            }
            place.become(state);
            next = next + 1 < SAVED_STATES ? next + 1 : 0;
            size = Math.min(SAVED_STATES, size + 1);
        }

        State latest() {
            return size > 0 ? ring[beforeNext()] : null;
        }

        void dropLatest() {
            next = beforeNext();
            size = Math.max(0, size - 1);
        }

        int beforeNext() {
            return next > 0 ? next - 1 : SAVED_STATES - 1;
        }
    }

    /** The buffer, read by what may come next in a week as a text. */
    private static final class Text {
        static final int WRONG = 0;
        static final int ORDER = 1;
        static final int END = 2;
        static final int LAST_DIGIT = 3;
        static final int TWO_DIGITS = 4;
        static final int SCORED_PERSON = 5;
        static final int SCORED_PAPER = 6;
        static final int EQUALS_SIGN = 7;
        static final int SCORE_DIGIT = 8;

        final int[] codes = new int[BUFFER_SIZE];
        int length = 0;

        int code(int at) {
            return at >= 0 && at < length && at < codes.length ? codes[at] : 0;
        }

        /** What a digit tells; 0 where there is none. */
        int digit(int at) {
            int code = code(at);
            return isDigit(code, '9') ? code - '0' : 0;
        }

        int firstWrong() {
            int due = ORDER;
            for (int at = 0; at < length; at++) {
                due = dueAfter(due, code(at));
                if (due == WRONG) {
                    return at;
                }
            }
            return length;
        }

        boolean isWeek() {
            int due = ORDER;
            for (int at = 0; at < length; at++) {
                due = dueAfter(due, code(at));
            }
            return due == END;
        }

        int orderSize(int at) {
            switch (code(at)) {
                case 'w':
                    return 1;
                case 'd':
                case 'r':
                    return 2;
                case 's':
                    return 5;
                default:
                    return 3;
            }
        }

        long hashWithText(long before) {
            long hash = 31 * before + length;
            for (int at = 0; at < length; at++) {
                hash = 31 * hash + code(at);
            }
            return hash;
        }

        static int dueAfter(int due, int code) {
            switch (due) {
                case ORDER:
                    return dueAfterLetter(code);
                case END:
                    return code == ';' ? ORDER : WRONG;
                case LAST_DIGIT:
                    return isDigit(code, '7') ? END : WRONG;
                case TWO_DIGITS:
                    return isDigit(code, '7') ? LAST_DIGIT : WRONG;
                case SCORED_PERSON:
                    return isDigit(code, '7') ? SCORED_PAPER : WRONG;
                case SCORED_PAPER:
                    return isDigit(code, '7') ? EQUALS_SIGN : WRONG;
                case EQUALS_SIGN:
                    return code == '=' ? SCORE_DIGIT : WRONG;
                case SCORE_DIGIT:
                    return isDigit(code, '9') ? END : WRONG;
                default:
                    return WRONG;
            }
        }

        static int dueAfterLetter(int code) {
            switch (code) {
                case 't':
                case 'x':
                    return TWO_DIGITS;
                case 's':
                    return SCORED_PERSON;
                case 'd':
                case 'r':
                    return LAST_DIGIT;
                case 'w':
                    return END;
                default:
                    return WRONG;
            }
        }

        static boolean isDigit(int code, char greatest) {
            return code >= '0' && code <= greatest;
        }
    }

    /** Persons who can pay for reviews, papers that have free ones, and the most that go together. */
    private static final class Matching {
        final int[] payable = new int[PERSONS];
        final int[] fitting = new int[PERSONS];
        final int[] free = new int[PAPERS];
        final int[] left = new int[PERSONS];
        final int[] held = new int[PERSONS];
        final int[] wantedBy = new int[PERSONS];
        final int[] holderOf = new int[PAPERS];
        final int[] queue = new int[PAPERS];

        /** A paper that finds no way finds none later either, so each paper is looked at once. */
        int byWays(int absent) {
            for (int person = 0; person < PERSONS; person++) {
                left[person] = person == absent ? 0 : payable[person];
                held[person] = 0;
            }
            int total = 0;
            for (int paper = 0; paper < PAPERS; paper++) {
                int found = 0;
                while (found < free[paper] && findWay(paper)) {
                    found++;
                }
                total += found;
            }
            return total;
        }

        /**
         * Looks for a person for the paper. One who has nothing left can still come from a paper
         * that holds this person, if that paper finds another.
         */
        boolean findWay(int start) {
            int seenPersons = 0;
            int seenPapers = 1 << start;
            queue[0] = start;
            int end = 1;
            for (int at = 0; at < end && at < PAPERS; at++) {
                int paper = queue[at];
                for (int person = 0; person < PERSONS; person++) {
                    if (has(seenPersons, person) || !has(fitting[person] & ~held[person], paper)) {
                        continue;
                    }
                    seenPersons |= 1 << person;
                    wantedBy[person] = paper;
                    if (left[person] > 0) {
                        exchange(person, start);
                        return true;
                    }
                    end = queueHeld(person, held[person] & ~seenPapers, end);
                    seenPapers |= held[person];
                }
            }
            return false;
        }

        int queueHeld(int person, int papers, int end) {
            int newEnd = end;
            for (int paper = 0; paper < PAPERS; paper++) {
                if (has(papers, paper) && newEnd < PAPERS) {
                    holderOf[paper] = person;
                    queue[newEnd] = paper;
                    newEnd++;
                }
            }
            return newEnd;
        }

        /** Goes back along the way: each paper on it gets the person who wanted to come to it. */
        void exchange(int last, int start) {
            left[last]--;
            int paper = wantedBy[last];
            held[last] |= 1 << paper;
            for (int step = 0; paper != start && step < PAPERS; step++) {
                int person = holderOf[paper];
                held[person] &= ~(1 << paper);
                paper = wantedBy[person];
                held[person] |= 1 << paper;
            }
        }

        /** Every cut bounds what can be taken, and the least of them can be reached. */
        int byCuts() {
            int open = openPapers();
            int least = costOfCut(0);
            for (int kept = 1; kept < 1 << PAPERS; kept++) {
                // keeping a paper without free reviews can only add to the cost
                if ((kept & ~open) == 0) {
                    least = Math.min(least, costOfCut(kept));
                }
            }
            return least;
        }

        int openPapers() {
            int open = 0;
            for (int paper = 0; paper < PAPERS; paper++) {
                if (free[paper] > 0) {
                    open |= 1 << paper;
                }
            }
            return open;
        }

        int costOfCut(int kept) {
            int cost = 0;
            for (int paper = 0; paper < PAPERS; paper++) {
                if (!has(kept, paper)) {
                    cost += free[paper];
                }
            }
            for (int person = 0; person < PERSONS; person++) {
                cost += Math.min(payable[person], Integer.bitCount(fitting[person] & kept));
            }
            return cost;
        }
    }
}
