import java.util.NoSuchElementException;

/**
 * A loom of ribs on a whale, two clans who weave on it from either end, and a song of throws.
 * Words in capitals in the comments are those of the document (../shared/DOC.md).
 */
public final class RibLoom {

    public static final int NONE = -1;

    private static final int MOST_BYTES = 700;
    private static final int MOST_RIBS = 12;
    private static final int MOST_VERSES = 8;
    private static final int MOST_STRENGTH = 99;
    private static final int MOST_SKILL = 9;
    private static final int UNTOLD_SKILL = 3;
    private static final int MOST_THROW = 4095;
    private static final int MOST_ACTS = 40;
    private static final int MOST_KEPT = 9;
    private static final int MOST_SEEN = 8;
    private static final int MOST_AHEAD = 60;
    private static final int MOST_SEEN_DAYS = 20;
    private static final int LAST_DAY = 999;

    private static final int WEST = 0;
    private static final int EAST = 1;

    private static final int FAULTY_TEXTS = 0;
    private static final int REFUSED_ACTS = 1;
    private static final int REFUSED_SIGHTS = 2;

    // One entry of a rule's code is a number below VALUE, a value from there on, or an operation.
    private static final int VALUE = 10000;
    private static final int OPERATION = 20000;

    private static final int OPEN = 0;
    private static final int OR = 1;
    private static final int AND = 2;
    private static final int NOT = 3;
    private static final int LESS = 4;
    private static final int SAME = 5;
    private static final int PLUS = 6;
    private static final int MINUS = 7;
    private static final int TIMES = 8;
    private static final int BY = 9;

    // The rows are made once and used again by all calls: a run's room is small.
    private final byte[] tape = new byte[MOST_BYTES];
    private int taped = 0;
    private int faultPlace = NONE;
    private Plan plan = new Plan();
    private Plan draft = new Plan();
    private final Reader reader = new Reader(tape, draft);
    private final Ledger ledger = new Ledger();
    private Ledger imaged = null;
    private boolean imageKept = false;
    private final State trial = new State();
    private final Weaver weaver = new Weaver();
    private final Forecast forecast = new Forecast();
    private final Song song = new Song();
    private final Sight sight = new Sight(weaver, trial);
    private final Dice dice = new Dice();
    private final int[] gains = new int[8];

    public RibLoom() {
        ledger.begin(plan);
    }

    // ---- the text ----

    public int feed(int a, int b, int c, int d, int e) {
        if (taped + 20 > MOST_BYTES) {
            return NONE;
        }
        feedNumber(a);
        feedNumber(b);
        feedNumber(c);
        feedNumber(d);
        feedNumber(e);
        return taped;
    }

    private void feedNumber(int number) {
        for (int shift = 24; shift >= 0; shift -= 8) {
            if (taped < MOST_BYTES) {
                tape[taped] = (byte) (number >> shift);
                taped++;
            }
        }
    }

    public int loom(int n) throws IllegalArgumentException {
        if (n < 0 || n > taped) {
            throw new IllegalArgumentException("the tape has not so many bytes");
        }
        taped = 0;
        int fault = reader.read(n, draft);
        faultPlace = fault == 0 ? NONE : reader.place;
        if (fault != 0) {
            ledger.refused[FAULTY_TEXTS]++;
            return fault;
        }
        Plan told = draft;
        draft = plan;
        plan = told;
        ledger.begin(plan);
        imageKept = false;
        noteChange();
        return 0;
    }

    public int fault() {
        return faultPlace;
    }

    // ---- what there is ----

    public int count(int what) throws NoSuchElementException {
        State s = ledger.state;
        switch (what) {
            case 0: return plan.ribs;
            case 1: return plan.verses;
            case 2: return s.day;
            case 3: return s.past[WEST];
            case 4: return s.past[EAST];
            case 5: return s.sails;
            case 6: return s.kept;
            case 7: return s.goneBits(plan.ribs);
            case 8: return s.gaps;
            case 9: return song.kinds(plan, aliveNow());
            case 10: return ledger.acts;
            case 11: return ledger.seen;
            case 12: return taped;
            case 13: return ledger.refused[FAULTY_TEXTS];
            case 14: return ledger.refused[REFUSED_ACTS];
            case 15: return ledger.refused[REFUSED_SIGHTS];
            default: throw new NoSuchElementException("no such count");
        }
    }

    public int rib(int rib, int what) throws NoSuchElementException {
        needRib(rib);
        switch (what) {
            case 0: return ledger.state.strength[rib];
            case 1: return plan.isJaw(rib) ? 1 : 0;
            case 2: return ledger.state.isPast(rib, plan.ribs) ? 1 : 0;
            case 3: return song.versesOver(plan, rib);
            default: throw new NoSuchElementException("no such what of a rib");
        }
    }

    public int verse(int verse, int what) throws NoSuchElementException {
        needVerse(verse);
        switch (what) {
            case 0: return plan.throwsOf[verse];
            case 1: return plan.throwsOf[verse] & aliveNow();
            case 2: return song.longestFloat(plan, aliveNow(), verse);
            case 3: return song.alike(plan, aliveNow(), verse);
            default: throw new NoSuchElementException("no such what of a verse");
        }
    }

    public int sail(int i, int what) throws NoSuchElementException {
        if (i < 0 || i >= ledger.state.kept) {
            throw new NoSuchElementException("no such kept sail");
        }
        needWhat(what, 2);
        return what == 0 ? ledger.state.keptGaps[i] : ledger.state.keptDays[i];
    }

    public int skill(int clan) throws NoSuchElementException {
        needClan(clan);
        return ledger.state.skills[clan];
    }

    // ---- acts ----

    public int days(int many) {
        if (many < 1 || many > 20 || ledger.state.day + many > LAST_DAY) {
            return refuse(REFUSED_ACTS);
        }
        keepAct();
        for (int i = 0; i < many; i++) {
            weaver.pass(plan, ledger.state);
        }
        return ledger.state.day;
    }

    public int sell(int rib) throws NoSuchElementException {
        needRib(rib);
        int was = ledger.state.strength[rib];
        if (was == 0) {
            return refuse(REFUSED_ACTS);
        }
        keepAct();
        ledger.state.strength[rib] = 0;
        return was;
    }

    public int shore(int rib, int more) throws NoSuchElementException {
        needRib(rib);
        if (more < 1 || more > 30) {
            return refuse(REFUSED_ACTS);
        }
        keepAct();
        ledger.state.strengthen(rib, more);
        return ledger.state.strength[rib];
    }

    public int unpick() {
        int were = ledger.state.past[WEST] + ledger.state.past[EAST];
        if (were == 0) {
            return refuse(REFUSED_ACTS);
        }
        keepAct();
        ledger.state.beginSail();
        return were;
    }

    public int teach(int clan, int skill) throws NoSuchElementException {
        needClan(clan);
        int was = ledger.state.skills[clan];
        if (skill < 0 || skill > MOST_SKILL || skill == was) {
            return refuse(REFUSED_ACTS);
        }
        keepAct();
        ledger.state.skills[clan] = skill;
        return was;
    }

    public int undo() {
        if (ledger.acts == 0) {
            return NONE;
        }
        ledger.undoAct();
        noteChange();
        return ledger.acts;
    }

    // ---- what will be, if only days go by ----

    public int then(int rib, int days) throws NoSuchElementException, IllegalArgumentException {
        needRib(rib);
        needWithin(days, 0, MOST_AHEAD);
        tryDays(days);
        return trial.strength[rib];
    }

    public int later(int days, int what) throws NoSuchElementException, IllegalArgumentException {
        needWhat(what, 4);
        needWithin(days, 0, MOST_AHEAD);
        tryDays(days);
        switch (what) {
            case 0: return trial.past[WEST];
            case 1: return trial.past[EAST];
            case 2: return trial.sails;
            default: return trial.goneBits(plan.ribs);
        }
    }

    public int gone(int rib) throws NoSuchElementException {
        needRib(rib);
        foresee();
        return forecast.goneAfter[rib];
    }

    public int done(int k, int what) throws NoSuchElementException, IllegalArgumentException {
        needWhat(what, 3);
        needWithin(k, 1, MOST_AHEAD);
        foresee();
        if (k > forecast.sails) {
            return NONE;
        }
        switch (what) {
            case 0: return forecast.sailAfter[k - 1];
            case 1: return forecast.sailGaps[k - 1];
            default: return forecast.sailMeets[k - 1];
        }
    }

    public int widest() {
        foresee();
        return forecast.widestSail();
    }

    public int fall(int what) throws NoSuchElementException {
        needWhat(what, 2);
        foresee();
        return what == 0 ? forecast.firstFall(plan.ribs) : forecast.lastFall(plan.ribs);
    }

    public int dating(int gaps, int what) throws NoSuchElementException, IllegalArgumentException {
        needWhat(what, 2);
        needBits(gaps);
        foresee();
        return what == 0 ? forecast.firstWith(gaps) : forecast.lastWith(gaps);
    }

    public int before(int gaps, int other) throws IllegalArgumentException {
        needBits(gaps);
        needBits(other);
        foresee();
        int first = forecast.firstWith(gaps);
        int second = forecast.firstWith(other);
        return first != NONE && second != NONE && first < second ? 1 : 0;
    }

    public int strongest(int days) throws IllegalArgumentException {
        needWithin(days, 0, MOST_AHEAD);
        tryDays(days);
        int best = NONE;
        int most = 0;
        for (int r = 0; r < plan.ribs; r++) {
            if (trial.strength[r] > most) {
                most = trial.strength[r];
                best = r;
            }
        }
        return best;
    }

    public int lost(int days, int what) throws NoSuchElementException, IllegalArgumentException {
        needWhat(what, 2);
        needWithin(days, 0, MOST_AHEAD);
        int rent = tryDays(days);
        return what == 0 ? ledger.state.total(plan.ribs) - trial.total(plan.ribs) : rent;
    }

    public int pace(int clan) throws NoSuchElementException {
        needClan(clan);
        return weaver.paceOf(plan, ledger.state, clan);
    }

    // ---- the ribs and the song now ----

    public int span(int what) throws NoSuchElementException {
        needWhat(what, 2);
        int alive = aliveNow();
        int most = 0;
        int first = NONE;
        int row = 0;
        for (int r = 0; r < plan.ribs; r++) {
            row = (alive >> r & 1) == 1 ? row + 1 : 0;
            if (row > most) {
                most = row;
                first = r - row + 1;
            }
        }
        return what == 0 ? most : first;
    }

    public int toTell() {
        return song.fewestToTell(plan, aliveNow());
    }

    public int missed() {
        return song.mostMissed(plan, aliveNow());
    }

    public int between(int verse, int other) throws NoSuchElementException {
        needVerse(verse);
        needVerse(other);
        return song.turns(plan, aliveNow(), verse, other);
    }

    public int order(int i) throws NoSuchElementException {
        if (i < NONE || i >= plan.verses) {
            throw new NoSuchElementException("the order has no such place");
        }
        song.findOrder(plan, aliveNow());
        return i == NONE ? song.bestTurns : song.bestRow[i];
    }

    public int mirrored(int verse) throws NoSuchElementException {
        needVerse(verse);
        return song.mirrorOf(plan, aliveNow(), verse);
    }

    public int both(int verse, int other) throws NoSuchElementException {
        needVerse(verse);
        needVerse(other);
        return plan.throwsOf[verse] & plan.throwsOf[other] & aliveNow();
    }

    // ---- what was seen ----

    public int see(int rib, int days, boolean gone) throws NoSuchElementException {
        needRib(rib);
        if (ledger.seen >= MOST_SEEN || days < 0 || days > MOST_SEEN_DAYS) {
            return refuse(REFUSED_SIGHTS);
        }
        ledger.addSeen(rib, days, gone);
        noteChange();
        return ledger.seen;
    }

    public int strong(int what) throws NoSuchElementException {
        needWhat(what, 3);
        sight.search(plan, ledger);
        switch (what) {
            case 0: return sight.fitting;
            case 1: return sight.firstFitting;
            default: return sight.fitsWithout ? 1 : 0;
        }
    }

    public int look(int what) throws NoSuchElementException {
        needWhat(what, 2);
        sight.compareDays(plan, ledger);
        return what == 0 ? sight.lookAfter : sight.lookUnlike;
    }

    public void forget() {
        ledger.seen = 0;
        noteChange();
    }

    // ---- chance and choice ----

    public int storms(int rib, int days, int tenths)
            throws NoSuchElementException, IllegalArgumentException {
        needRib(rib);
        needWithin(days, 1, 5);
        needWithin(tenths, 0, 10);
        int likely = 0;
        for (int stormy = 0; stormy < 1 << days; stormy++) {
            int weight = 1;
            for (int d = 0; d < days; d++) {
                weight *= (stormy >> d & 1) == 1 ? tenths : 10 - tenths;
            }
            if (weight != 0 && isGoneAfter(rib, days, stormy)) {
                likely += weight;
            }
        }
        return likely;
    }

    private boolean isGoneAfter(int rib, int days, int stormy) {
        trial.copyFrom(ledger.state);
        for (int d = 0; d < days; d++) {
            if ((stormy >> d & 1) == 1) {
                trial.weaken(plan.ribs, 9);
            }
            weaver.pass(plan, trial);
        }
        return trial.strength[rib] == 0;
    }

    public int game(int what) throws NoSuchElementException {
        needWhat(what, 2);
        for (int couple = 0; couple < 4; couple++) {
            playCouple(couple >> 1, couple & 1);
        }
        int many = 0;
        int first = NONE;
        for (int couple = 0; couple < 4; couple++) {
            if (rests(couple)) {
                first = many == 0 ? 10 * (couple >> 1) + (couple & 1) : first;
                many++;
            }
        }
        return what == 0 ? many : first;
    }

    private void playCouple(int west, int east) {
        trial.copyFrom(ledger.state);
        trial.skills[WEST] = Math.min(MOST_SKILL, trial.skills[WEST] + 3 * west);
        trial.skills[EAST] = Math.min(MOST_SKILL, trial.skills[EAST] + 3 * east);
        boolean sailDone = weaver.pass(plan, trial);
        sailDone = weaver.pass(plan, trial) || sailDone;
        int prize = sailDone ? 6 : 0;
        int couple = 2 * west + east;
        gains[2 * couple + WEST] = 2 * trial.past[WEST] + prize - 3 * west;
        gains[2 * couple + EAST] = 2 * trial.past[EAST] + prize - 3 * east;
    }

    private boolean rests(int couple) {
        int ifWestTurns = couple ^ 2;
        int ifEastTurns = couple ^ 1;
        return gains[2 * couple + WEST] >= gains[2 * ifWestTurns + WEST]
                && gains[2 * couple + EAST] >= gains[2 * ifEastTurns + EAST];
    }

    public int years(int seed, int n, int what)
            throws NoSuchElementException, IllegalArgumentException {
        needWhat(what, 3);
        needWithin(n, 0, MOST_AHEAD);
        trial.copyFrom(ledger.state);
        dice.seed = seed;
        int sails = 0;
        int gaps = 0;
        for (int i = 0; i < n; i++) {
            letChanceAct();
            if (weaver.pass(plan, trial)) {
                sails++;
                gaps += Integer.bitCount(weaver.doneGaps);
            }
        }
        switch (what) {
            case 0: return sails;
            case 1: return gaps;
            default: return trial.total(plan.ribs);
        }
    }

    private void letChanceAct() {
        int act = dice.draw(7);
        if (act <= 1 && plan.ribs > 0) {
            int rib = dice.draw(plan.ribs);
            if (act == 0) {
                trial.strength[rib] = 0;
            } else {
                trial.strengthen(rib, 9);
            }
        } else if (act == 2) {
            trial.skills[WEST] = dice.draw(MOST_SKILL + 1);
        } else if (act == 3) {
            trial.skills[EAST] = dice.draw(MOST_SKILL + 1);
        }
    }

    // ---- the image ----

    public void image() {
        if (imaged == null) {
            imaged = new Ledger();
        }
        imaged.copyFrom(ledger);
        imageKept = true;
    }

    public boolean restore() {
        if (!imageKept || imaged == null) {
            return false;
        }
        ledger.copyFrom(imaged);
        noteChange();
        return true;
    }

    // ---- what several calls share ----

    private void needRib(int rib) {
        if (rib < 0 || rib >= plan.ribs) {
            throw new NoSuchElementException("no such rib");
        }
    }

    private void needVerse(int verse) {
        if (verse < 0 || verse >= plan.verses) {
            throw new NoSuchElementException("no such verse");
        }
    }

    private void needClan(int clan) {
        if (clan != WEST && clan != EAST) {
            throw new NoSuchElementException("no such clan");
        }
    }

    private void needWhat(int what, int many) {
        if (what < 0 || what >= many) {
            throw new NoSuchElementException("no such what");
        }
    }

    private void needWithin(int number, int least, int most) {
        if (number < least || number > most) {
            throw new IllegalArgumentException("a number is out of its bounds");
        }
    }

    private void needBits(int bits) {
        if (bits < 0 || bits >= 1 << plan.ribs) {
            throw new IllegalArgumentException("not bits of ribs");
        }
    }

    private int refuse(int status) {
        ledger.refused[status]++;
        return NONE;
    }

    private void keepAct() {
        ledger.keepAct();
        noteChange();
    }

    // What was worked out before holds only as long as nothing changes.
    private void noteChange() {
        forecast.known = false;
        sight.searched = false;
        sight.compared = false;
    }

    private int aliveNow() {
        return ledger.state.aliveBits(plan.ribs);
    }

    // Answers the GAPS of all sails done on the way.
    private int tryDays(int days) {
        trial.copyFrom(ledger.state);
        int rent = 0;
        for (int i = 0; i < days; i++) {
            if (weaver.pass(plan, trial)) {
                rent |= weaver.doneGaps;
            }
        }
        return rent;
    }

    private void foresee() {
        if (forecast.known) {
            return;
        }
        trial.copyFrom(ledger.state);
        forecast.begin();
        forecast.noteGone(0, trial, plan.ribs);
        for (int d = 1; d <= MOST_AHEAD; d++) {
            if (weaver.pass(plan, trial)) {
                forecast.addSail(d, weaver.doneGaps, weaver.doneWest);
            }
            forecast.noteGone(d, trial, plan.ribs);
        }
        forecast.known = true;
    }

    /** What a text told; it stays as it is until the next text. */
    private static final class Plan {
        final int[] strength = new int[MOST_RIBS];
        final int[] throwsOf = new int[MOST_VERSES];
        final int[] skills = new int[2];
        final int[] code = new int[MOST_BYTES];
        final Rule rots = new Rule();
        final Rule weaves = new Rule();
        int ribs = 0;
        int jaws = 0;
        int verses = 0;
        int coded = 0;
        boolean clansTold = false;

        Plan() {
            clear();
        }

        void clear() {
            skills[WEST] = UNTOLD_SKILL;
            skills[EAST] = UNTOLD_SKILL;
            rots.told = false;
            weaves.told = false;
            ribs = 0;
            jaws = 0;
            verses = 0;
            coded = 0;
            clansTold = false;
        }

        boolean isJaw(int rib) {
            return (jaws >> rib & 1) == 1;
        }
    }

    /** The piece of a plan's code that is ROTS or WEAVES: each operation behind what it works on. */
    private static final class Rule {
        boolean told = false;
        int from = 0;
        int to = 0;
    }

    /** Reads a LOOM from the tape; at a FAULT, place is left at the token that is at fault. */
    private static final class Reader {
        private static final int WRONG = 1;
        private static final int TOO_MUCH = 2;
        private static final int NO_VALUE = 3;
        private static final int SECOND = 5;

        private static final int END = 0;
        private static final int BLANK = 1;
        private static final int WORD = 2;
        private static final int NUMBER = 3;
        private static final int SIGN = 4;
        private static final int NO_TOKEN = 5;

        private static final String SIGNS = ";()+-*/<=";
        private static final int MOST_DIGITS = 4;
        private static final int MOST_WITHIN = 5;
        private static final int MOST_NOTS = 6;

        // By operation, from OPEN to BY: one of a higher rank is worked out ahead of one of a lower.
        private static final int[] RANKS = {0, 1, 2, 3, 4, 4, 5, 5, 6, 6};
        private static final int LEAST_RANK = 1;
        private static final int RANK_OF_AND = 2;
        private static final int RANK_OF_TESTS = 4;

        private final byte[] text;
        private int length = 0;
        private Plan plan;

        // The token that is looked at.
        int place = 0;
        private int end = 0;
        private int kind = END;
        private int number = 0;

        // The EXPR that is being read: operations that wait for what comes behind them.
        private final int[] waiting = new int[100];
        private int waits = 0;
        private int depth = 0;
        private int nots = 0;
        private boolean ofRots = false;
        private boolean partDue = false;
        private boolean notFits = false;
        private boolean exprBegins = false;

        Reader(byte[] tape, Plan draft) {
            text = tape;
            plan = draft;
        }

        int read(int many, Plan into) {
            length = many;
            plan = into;
            plan.clear();
            end = 0;
            advance();
            int fault = 0;
            for (int i = 0; i < MOST_BYTES && kind != END && fault == 0; i++) {
                if (isWord("rib")) {
                    fault = readRib(false);
                } else if (isWord("jaw")) {
                    fault = readRib(true);
                } else if (isWord("clans")) {
                    fault = readClans();
                } else if (isWord("verse")) {
                    fault = readVerse();
                } else if (isWord("rots")) {
                    fault = readRule(plan.rots, true);
                } else if (isWord("weaves")) {
                    fault = readRule(plan.weaves, false);
                } else {
                    fault = WRONG;
                }
            }
            return fault;
        }

        private int readRib(boolean jaw) {
            if (plan.ribs >= MOST_RIBS) {
                return TOO_MUCH;
            }
            advance();
            int fault = checkNumber(MOST_STRENGTH);
            if (fault != 0) {
                return fault;
            }
            plan.strength[plan.ribs] = number;
            plan.jaws |= jaw ? 1 << plan.ribs : 0;
            plan.ribs++;
            advance();
            return readLineEnd();
        }

        private int readClans() {
            if (plan.clansTold) {
                return SECOND;
            }
            plan.clansTold = true;
            advance();
            for (int clan = WEST; clan <= EAST; clan++) {
                int fault = checkNumber(MOST_SKILL);
                if (fault != 0) {
                    return fault;
                }
                plan.skills[clan] = number;
                advance();
            }
            return readLineEnd();
        }

        private int readVerse() {
            if (plan.verses >= MOST_VERSES) {
                return TOO_MUCH;
            }
            advance();
            int fault = checkNumber(MOST_THROW);
            if (fault != 0) {
                return fault;
            }
            plan.throwsOf[plan.verses] = number;
            plan.verses++;
            advance();
            return readLineEnd();
        }

        private int checkNumber(int most) {
            if (kind != NUMBER) {
                return WRONG;
            }
            return end - place > MOST_DIGITS || number > most ? TOO_MUCH : 0;
        }

        private int readLineEnd() {
            if (!isSign(';')) {
                return WRONG;
            }
            advance();
            return 0;
        }

        private int readRule(Rule rule, boolean rots) {
            if (rule.told) {
                return SECOND;
            }
            rule.told = true;
            rule.from = plan.coded;
            ofRots = rots;
            waits = 0;
            depth = 0;
            expectPart(true);
            exprBegins = true;
            advance();
            for (int i = 0; i < MOST_BYTES; i++) {
                if (!partDue && depth == 0 && isSign(';')) {
                    workOut(LEAST_RANK);
                    rule.to = plan.coded;
                    advance();
                    return 0;
                }
                int fault = partDue ? readPart() : readOperation();
                if (fault != 0) {
                    return fault;
                }
                advance();
            }
            return WRONG;
        }

        private void expectPart(boolean notToo) {
            partDue = true;
            notFits = notToo;
            nots = 0;
            exprBegins = false;
        }

        private int readPart() {
            boolean opens = isSign('(');
            if (!opens && kind != NUMBER && kind != WORD) {
                return WRONG;
            }
            if (exprBegins && depth > MOST_WITHIN) {
                return TOO_MUCH;
            }
            if (kind == WORD) {
                return readWordOfPart();
            }
            if (opens) {
                hold(OPEN);
                depth++;
                expectPart(true);
                exprBegins = true;
                return 0;
            }
            if (end - place > MOST_DIGITS) {
                return TOO_MUCH;
            }
            emit(number);
            partDue = false;
            return 0;
        }

        private int readWordOfPart() {
            if (notFits && isWord("not")) {
                if (nots >= MOST_NOTS) {
                    return TOO_MUCH;
                }
                nots++;
                hold(NOT);
                exprBegins = false;
                return 0;
            }
            int value = valueNamed();
            if (value == NONE) {
                return NO_VALUE;
            }
            emit(VALUE + value);
            partDue = false;
            return 0;
        }

        // The weaver puts the values into its row in this order.
        private int valueNamed() {
            if (isWord("strength")) {
                return 0;
            }
            if (isWord("place")) {
                return 1;
            }
            if (isWord("day")) {
                return 2;
            }
            if (isWord(ofRots ? "beside" : "skill")) {
                return 3;
            }
            return isWord(ofRots ? "woven" : "left") ? 4 : NONE;
        }

        private int readOperation() {
            if (depth > 0 && isSign(')')) {
                workOut(LEAST_RANK);
                waits = Math.max(0, waits - 1);
                depth--;
                return 0;
            }
            int operation = operationNamed();
            if (operation == NONE) {
                return WRONG;
            }
            int rank = RANKS[operation];
            // Only one test may stand in a NOT, so an earlier one must not be worked out for it.
            workOut(rank == RANK_OF_TESTS ? rank + 1 : rank);
            if (rank == RANK_OF_TESTS && waits > 0 && RANKS[waiting[waits - 1]] == rank) {
                return WRONG;
            }
            hold(operation);
            expectPart(rank <= RANK_OF_AND);
            return 0;
        }

        private int operationNamed() {
            if (kind == WORD) {
                return isWord("or") ? OR : isWord("and") ? AND : NONE;
            }
            if (kind != SIGN || place >= length) {
                return NONE;
            }
            switch (text[place]) {
                case '<': return LESS;
                case '=': return SAME;
                case '+': return PLUS;
                case '-': return MINUS;
                case '*': return TIMES;
                case '/': return BY;
                default: return NONE;
            }
        }

        private void hold(int operation) {
            if (waits < waiting.length) {
                waiting[waits] = operation;
                waits++;
            }
        }

        private void workOut(int leastRank) {
            while (waits > 0 && RANKS[waiting[waits - 1]] >= leastRank) {
                waits--;
                emit(OPERATION + waiting[waits]);
            }
        }

        private void emit(int entry) {
            if (plan.coded < MOST_BYTES) {
                plan.code[plan.coded] = entry;
                plan.coded++;
            }
        }

        private void advance() {
            place = endOfRow(end, BLANK);
            end = place;
            if (place >= length) {
                kind = END;
                return;
            }
            kind = kindOf(text[place]);
            end = kind == WORD || kind == NUMBER ? endOfRow(place, kind) : place + 1;
            if (kind == NUMBER) {
                number = 0;
                for (int i = place; i < end && i < place + MOST_DIGITS; i++) {
                    number = 10 * number + text[i] - '0';
                }
            }
        }

        private int endOfRow(int from, int ofKind) {
            int i = from;
            while (i < length && kindOf(text[i]) == ofKind) {
                i++;
            }
            return i;
        }

        private int kindOf(byte sign) {
            if (sign == 32 || sign == 10) {
                return BLANK;
            }
            if (sign >= 'a' && sign <= 'z') {
                return WORD;
            }
            if (sign >= '0' && sign <= '9') {
                return NUMBER;
            }
            return SIGNS.indexOf((char) (sign & 255)) >= 0 ? SIGN : NO_TOKEN;
        }

        private boolean isWord(String word) {
            if (kind != WORD || end - place != word.length()) {
                return false;
            }
            for (int i = 0; i < word.length(); i++) {
                if (text[place + i] != word.charAt(i)) {
                    return false;
                }
            }
            return true;
        }

        private boolean isSign(char sign) {
            return kind == SIGN && text[place] == sign;
        }
    }

    /** All that DAYS and ACTS change. */
    private static final class State {
        static final int SIZE = MOST_RIBS + 2 * MOST_KEPT + 8;

        final int[] strength = new int[MOST_RIBS];
        final int[] skills = new int[2];
        final int[] past = new int[2];
        final int[] keptGaps = new int[MOST_KEPT];
        final int[] keptDays = new int[MOST_KEPT];
        int gaps = 0;
        int day = 0;
        int sails = 0;
        int kept = 0;

        void begin(Plan plan) {
            System.arraycopy(plan.strength, 0, strength, 0, MOST_RIBS);
            System.arraycopy(plan.skills, 0, skills, 0, 2);
            beginSail();
            day = 0;
            sails = 0;
            kept = 0;
        }

        void beginSail() {
            past[WEST] = 0;
            past[EAST] = 0;
            gaps = 0;
        }

        void keepSail() {
            for (int i = MOST_KEPT - 1; i > 0; i--) {
                keptGaps[i] = keptGaps[i - 1];
                keptDays[i] = keptDays[i - 1];
            }
            keptGaps[0] = gaps;
            keptDays[0] = day;
            kept = Math.min(MOST_KEPT, kept + 1);
            sails++;
        }

        void strengthen(int rib, int more) {
            strength[rib] = Math.min(MOST_STRENGTH, strength[rib] + more);
        }

        void weaken(int ribs, int less) {
            for (int r = 0; r < ribs; r++) {
                strength[r] = Math.max(0, strength[r] - less);
            }
        }

        boolean isPast(int rib, int ribs) {
            return rib < past[WEST] || rib >= ribs - past[EAST];
        }

        int aliveBits(int ribs) {
            int bits = 0;
            for (int r = 0; r < ribs; r++) {
                bits |= strength[r] > 0 ? 1 << r : 0;
            }
            return bits;
        }

        int goneBits(int ribs) {
            return aliveBits(ribs) ^ (1 << ribs) - 1;
        }

        int total(int ribs) {
            int sum = 0;
            for (int r = 0; r < ribs; r++) {
                sum += strength[r];
            }
            return sum;
        }

        void copyFrom(State other) {
            System.arraycopy(other.strength, 0, strength, 0, MOST_RIBS);
            System.arraycopy(other.skills, 0, skills, 0, 2);
            System.arraycopy(other.past, 0, past, 0, 2);
            System.arraycopy(other.keptGaps, 0, keptGaps, 0, MOST_KEPT);
            System.arraycopy(other.keptDays, 0, keptDays, 0, MOST_KEPT);
            gaps = other.gaps;
            day = other.day;
            sails = other.sails;
            kept = other.kept;
        }

        void pack(int[] row, int at) {
            System.arraycopy(strength, 0, row, at, MOST_RIBS);
            System.arraycopy(keptGaps, 0, row, at + MOST_RIBS, MOST_KEPT);
            System.arraycopy(keptDays, 0, row, at + MOST_RIBS + MOST_KEPT, MOST_KEPT);
            int rest = at + MOST_RIBS + 2 * MOST_KEPT;
            System.arraycopy(skills, 0, row, rest, 2);
            System.arraycopy(past, 0, row, rest + 2, 2);
            row[rest + 4] = gaps;
            row[rest + 5] = day;
            row[rest + 6] = sails;
            row[rest + 7] = kept;
        }

        void unpack(int[] row, int at) {
            System.arraycopy(row, at, strength, 0, MOST_RIBS);
            System.arraycopy(row, at + MOST_RIBS, keptGaps, 0, MOST_KEPT);
            System.arraycopy(row, at + MOST_RIBS + MOST_KEPT, keptDays, 0, MOST_KEPT);
            int rest = at + MOST_RIBS + 2 * MOST_KEPT;
            System.arraycopy(row, rest, skills, 0, 2);
            System.arraycopy(row, rest + 2, past, 0, 2);
            gaps = row[rest + 4];
            day = row[rest + 5];
            sails = row[rest + 6];
            kept = row[rest + 7];
        }
    }

    /** All that AN IMAGE keeps. An ACT is kept as the state ahead of it, so that any is undone alike. */
    private static final class Ledger {
        final State state = new State();
        final int[] seenRibs = new int[MOST_SEEN];
        final int[] seenDays = new int[MOST_SEEN];
        final boolean[] seenGone = new boolean[MOST_SEEN];
        final int[] refused = new int[3];
        private final int[] actRows = new int[MOST_ACTS * State.SIZE];
        int acts = 0;
        int seen = 0;

        // STATUS goes on: it tells of the calls, not of the loom.
        void begin(Plan plan) {
            state.begin(plan);
            acts = 0;
            seen = 0;
        }

        void keepAct() {
            if (acts >= MOST_ACTS) {
                System.arraycopy(actRows, State.SIZE, actRows, 0, (MOST_ACTS - 1) * State.SIZE);
                acts = MOST_ACTS - 1;
            }
            state.pack(actRows, acts * State.SIZE);
            acts++;
        }

        void undoAct() {
            acts--;
            state.unpack(actRows, acts * State.SIZE);
        }

        void addSeen(int rib, int days, boolean gone) {
            seenRibs[seen] = rib;
            seenDays[seen] = days;
            seenGone[seen] = gone;
            seen++;
        }

        void copyFrom(Ledger other) {
            state.copyFrom(other.state);
            System.arraycopy(other.actRows, 0, actRows, 0, other.acts * State.SIZE);
            acts = other.acts;
            System.arraycopy(other.refused, 0, refused, 0, 3);
            seen = other.seen;
            for (int i = 0; i < seen; i++) {
                seenRibs[i] = other.seenRibs[i];
                seenDays[i] = other.seenDays[i];
                seenGone[i] = other.seenGone[i];
            }
        }
    }

    /** Lets DAYS go by on a state. */
    private static final class Weaver {
        private final int[] values = new int[5];
        private final int[] stack = new int[50];

        // Of the sail that was done last.
        int doneGaps = 0;
        int doneWest = 0;

        // Answers whether a sail was done.
        boolean pass(Plan plan, State s) {
            for (int r = 0; r < plan.ribs; r++) {
                if (s.strength[r] > 0 && !plan.isJaw(r)) {
                    s.strength[r] = Math.max(0, s.strength[r] - rotOf(plan, s, r));
                }
            }
            weave(plan, s, WEST);
            weave(plan, s, EAST);
            boolean finished = plan.ribs > 0 && !someBetween(plan, s);
            if (finished) {
                doneGaps = s.gaps;
                doneWest = s.past[WEST];
                s.keepSail();
                s.beginSail();
            }
            s.day++;
            return finished;
        }

        private int rotOf(Plan plan, State s, int r) {
            int ahead = r > 0 ? s.strength[r - 1] : 0;
            int behind = r + 1 < plan.ribs ? s.strength[r + 1] : 0;
            if (!plan.rots.told) {
                boolean besideGone = r > 0 && ahead == 0 || r + 1 < plan.ribs && behind == 0;
                return besideGone ? 2 : 1;
            }
            values[0] = s.strength[r];
            values[1] = r;
            values[2] = s.day;
            values[3] = ahead + behind;
            values[4] = s.isPast(r, plan.ribs) ? 1 : 0;
            return Math.max(0, Math.min(20, evaluate(plan, plan.rots)));
        }

        private void weave(Plan plan, State s, int clan) {
            // GONE ribs on the way change nothing that WEAVES can ask for, so it may be asked first.
            int todo = paceOf(plan, s, clan);
            for (int i = 0; i < plan.ribs && someBetween(plan, s) && isGone(plan, s, clan); i++) {
                goPast(plan, s, clan);
            }
            for (int i = 0; i < plan.ribs && todo > 0 && someBetween(plan, s); i++) {
                todo -= isGone(plan, s, clan) ? 0 : 1;
                goPast(plan, s, clan);
            }
        }

        private boolean someBetween(Plan plan, State s) {
            return s.past[WEST] + s.past[EAST] < plan.ribs;
        }

        private int placeOf(Plan plan, State s, int clan) {
            return clan == WEST ? s.past[WEST] : plan.ribs - 1 - s.past[EAST];
        }

        private boolean isGone(Plan plan, State s, int clan) {
            return s.strength[placeOf(plan, s, clan)] == 0;
        }

        private void goPast(Plan plan, State s, int clan) {
            int place = placeOf(plan, s, clan);
            s.gaps |= s.strength[place] == 0 ? 1 << place : 0;
            s.past[clan]++;
        }

        // What WEAVES gives at the first rib before the clan that isn't GONE; 0 without one.
        int paceOf(Plan plan, State s, int clan) {
            int left = 0;
            int first = NONE;
            int last = NONE;
            for (int r = s.past[WEST]; r < plan.ribs - s.past[EAST]; r++) {
                if (s.strength[r] > 0) {
                    left++;
                    first = first == NONE ? r : first;
                    last = r;
                }
            }
            if (left == 0) {
                return 0;
            }
            if (!plan.weaves.told) {
                return 1 + s.skills[clan] / 4;
            }
            int place = clan == WEST ? first : last;
            values[0] = s.strength[place];
            values[1] = place;
            values[2] = s.day;
            values[3] = s.skills[clan];
            values[4] = left;
            return Math.max(0, Math.min(5, evaluate(plan, plan.weaves)));
        }

        private int evaluate(Plan plan, Rule rule) {
            int top = 0;
            for (int i = rule.from; i < rule.to; i++) {
                int entry = plan.code[i];
                if (entry < OPERATION) {
                    if (top < stack.length) {
                        stack[top] = entry < VALUE ? entry : values[entry - VALUE];
                        top++;
                    }
                } else if (entry == OPERATION + NOT) {
                    if (top > 0) {
                        stack[top - 1] = stack[top - 1] == 0 ? 1 : 0;
                    }
                } else if (top > 1) {
                    top--;
                    stack[top - 1] = operate(entry - OPERATION, stack[top - 1], stack[top]);
                }
            }
            return top > 0 ? stack[0] : 0;
        }

        private int operate(int operation, int a, int b) {
            switch (operation) {
                case OR: return a != 0 || b != 0 ? 1 : 0;
                case AND: return a != 0 && b != 0 ? 1 : 0;
                case LESS: return a < b ? 1 : 0;
                case SAME: return a == b ? 1 : 0;
                case PLUS: return a + b;
                case MINUS: return a - b;
                case TIMES: return a * b;
                default: return b == 0 ? 0 : a / b;
            }
        }
    }

    /** What happens within 60 DAYS, if only these go by. */
    private static final class Forecast {
        final int[] sailAfter = new int[MOST_AHEAD];
        final int[] sailGaps = new int[MOST_AHEAD];
        final int[] sailMeets = new int[MOST_AHEAD];
        final int[] goneAfter = new int[MOST_RIBS];
        int sails = 0;
        boolean known = false;

        void begin() {
            sails = 0;
            for (int r = 0; r < MOST_RIBS; r++) {
                goneAfter[r] = NONE;
            }
        }

        void addSail(int after, int gaps, int meets) {
            if (sails < MOST_AHEAD) {
                sailAfter[sails] = after;
                sailGaps[sails] = gaps;
                sailMeets[sails] = meets;
                sails++;
            }
        }

        void noteGone(int after, State s, int ribs) {
            for (int r = 0; r < ribs; r++) {
                if (goneAfter[r] == NONE && s.strength[r] == 0) {
                    goneAfter[r] = after;
                }
            }
        }

        int widestSail() {
            int best = NONE;
            int fewest = MOST_RIBS + 1;
            for (int i = 0; i < sails; i++) {
                int many = Integer.bitCount(sailGaps[i]);
                if (many < fewest) {
                    fewest = many;
                    best = i + 1;
                }
            }
            return best;
        }

        int firstFall(int ribs) {
            int best = NONE;
            int soonest = MOST_AHEAD + 1;
            for (int r = 0; r < ribs; r++) {
                if (goneAfter[r] > 0 && goneAfter[r] < soonest) {
                    soonest = goneAfter[r];
                    best = r;
                }
            }
            return best;
        }

        int lastFall(int ribs) {
            int best = NONE;
            int latest = 0;
            for (int r = 0; r < ribs; r++) {
                int after = goneAfter[r] == NONE ? MOST_AHEAD + 1 : goneAfter[r];
                if (after > latest) {
                    latest = after;
                    best = r;
                }
            }
            return best;
        }

        int firstWith(int gaps) {
            for (int i = 0; i < sails; i++) {
                if (sailGaps[i] == gaps) {
                    return i + 1;
                }
            }
            return NONE;
        }

        int lastWith(int gaps) {
            for (int i = sails; i > 0; i--) {
                if (sailGaps[i - 1] == gaps) {
                    return i;
                }
            }
            return NONE;
        }
    }

    /** What the verses look like on the ribs that are left (alive, as bits). */
    private static final class Song {
        private final int[] row = new int[MOST_VERSES];
        final int[] bestRow = new int[MOST_VERSES];
        int bestTurns = 0;

        int versesOver(Plan plan, int rib) {
            int bits = 0;
            for (int v = 0; v < plan.verses; v++) {
                bits |= (plan.throwsOf[v] >> rib & 1) << v;
            }
            return bits;
        }

        int longestFloat(Plan plan, int alive, int verse) {
            int most = 0;
            int run = 0;
            int side = NONE;
            for (int r = 0; r < plan.ribs; r++) {
                if ((alive >> r & 1) == 1) {
                    int over = plan.throwsOf[verse] >> r & 1;
                    run = over == side ? run + 1 : 1;
                    side = over;
                    most = Math.max(most, run);
                }
            }
            return most;
        }

        int alike(Plan plan, int alive, int verse) {
            int bits = 0;
            for (int v = 0; v < plan.verses; v++) {
                bits |= turns(plan, alive, verse, v) == 0 ? 1 << v : 0;
            }
            return bits;
        }

        int turns(Plan plan, int alive, int verse, int other) {
            return Integer.bitCount((plan.throwsOf[verse] ^ plan.throwsOf[other]) & alive);
        }

        int kinds(Plan plan, int alive) {
            int many = 0;
            for (int v = 0; v < plan.verses; v++) {
                int earlier = alike(plan, alive, v) & (1 << v) - 1;
                many += earlier == 0 ? 1 : 0;
            }
            return many;
        }

        int fewestToTell(Plan plan, int alive) {
            int all = kinds(plan, alive);
            int best = alive;
            for (int bits = 0; bits < alive; bits++) {
                boolean ofAlive = (bits & alive) == bits;
                if (ofAlive && Integer.bitCount(bits) < Integer.bitCount(best)
                        && kinds(plan, bits) == all) {
                    best = bits;
                }
            }
            return best;
        }

        int mostMissed(Plan plan, int alive) {
            int best = NONE;
            int fewest = MOST_VERSES + 1;
            for (int r = 0; r < plan.ribs; r++) {
                if ((alive >> r & 1) == 1) {
                    int left = kinds(plan, alive ^ 1 << r);
                    if (left < fewest) {
                        fewest = left;
                        best = r;
                    }
                }
            }
            return best;
        }

        void findOrder(Plan plan, int alive) {
            bestTurns = 0;
            if (plan.verses > 0) {
                bestTurns = MOST_VERSES * MOST_RIBS;
                row[0] = 0;
                extendOrder(this, plan, alive, 1, 1, 0);
            }
        }

        // Rows come in their order and only fewer turns take the place: the first of like ones stays.
        private static void extendOrder(Song song, Plan plan, int alive, int placed, int used, int turned) {
            if (turned >= song.bestTurns) {
                return;
            }
            if (placed >= plan.verses || placed >= MOST_VERSES) {
                song.bestTurns = turned;
                System.arraycopy(song.row, 0, song.bestRow, 0, MOST_VERSES);
                return;
            }
            for (int v = 0; v < plan.verses; v++) {
                if ((used >> v & 1) == 0) {
                    song.row[placed] = v;
                    int more = song.turns(plan, alive, song.row[placed - 1], v);
                    extendOrder(song, plan, alive, placed + 1, used | 1 << v, turned + more);
                }
            }
        }

        int mirrorOf(Plan plan, int alive, int verse) {
            int turned = 0;
            for (int r = 0; r < plan.ribs; r++) {
                if ((alive >> r & 1) == 1) {
                    turned = 2 * turned + (plan.throwsOf[verse] >> r & 1);
                }
            }
            for (int v = 0; v < plan.verses; v++) {
                if (closedUp(plan, alive, v) == turned) {
                    return v;
                }
            }
            return NONE;
        }

        // The throw with the ribs that are left moved together.
        private int closedUp(Plan plan, int alive, int verse) {
            int bits = 0;
            int many = 0;
            for (int r = 0; r < plan.ribs; r++) {
                if ((alive >> r & 1) == 1) {
                    bits |= (plan.throwsOf[verse] >> r & 1) << many;
                    many++;
                }
            }
            return bits;
        }
    }

    /** Which strength of which rib fits what was SEEN, and when such ones differ most. */
    private static final class Sight {
        private static final int WORDS = (1 << MOST_RIBS) / 64;

        private final Weaver weaver;
        private final State trial;
        private final int[] goneOn = new int[MOST_SEEN_DAYS + 1];

        // A bit for each day and set of GONE ribs that was met.
        private final long[] met = new long[(MOST_SEEN_DAYS + 1) * WORDS];

        boolean searched = false;
        int fitting = 0;
        int firstFitting = NONE;
        boolean fitsWithout = true;

        boolean compared = false;
        int lookAfter = NONE;
        int lookUnlike = 0;

        Sight(Weaver weaver, State trial) {
            this.weaver = weaver;
            this.trial = trial;
        }

        void search(Plan plan, Ledger ledger) {
            if (searched) {
                return;
            }
            int last = lastSeenDay(ledger);
            fitting = 0;
            firstFitting = NONE;
            for (int r = 0; r < plan.ribs; r++) {
                for (int strength = 1; strength <= MOST_STRENGTH; strength++) {
                    if (strength != ledger.state.strength[r] && fits(plan, ledger, r, strength, last)) {
                        firstFitting = fitting == 0 ? 100 * r + strength : firstFitting;
                        fitting++;
                    }
                }
            }
            fitsWithout = fits(plan, ledger, NONE, 0, last);
            searched = true;
        }

        private int lastSeenDay(Ledger ledger) {
            int last = 0;
            for (int i = 0; i < ledger.seen; i++) {
                last = Math.max(last, ledger.seenDays[i]);
            }
            return last;
        }

        // With a rib of another strength (or none so): whether all that was SEEN until a day is so.
        private boolean fits(Plan plan, Ledger ledger, int rib, int strength, int last) {
            trial.copyFrom(ledger.state);
            if (rib >= 0 && rib < plan.ribs) {
                trial.strength[rib] = strength;
            }
            goneOn[0] = trial.goneBits(plan.ribs);
            boolean so = isAsSeen(ledger, 0);
            for (int d = 1; so && d <= last && d <= MOST_SEEN_DAYS; d++) {
                weaver.pass(plan, trial);
                goneOn[d] = trial.goneBits(plan.ribs);
                so = isAsSeen(ledger, d);
            }
            return so;
        }

        private boolean isAsSeen(Ledger ledger, int day) {
            for (int i = 0; i < ledger.seen; i++) {
                boolean isGone = (goneOn[day] >> ledger.seenRibs[i] & 1) == 1;
                if (ledger.seenDays[i] == day && ledger.seenGone[i] != isGone) {
                    return false;
                }
            }
            return true;
        }

        void compareDays(Plan plan, Ledger ledger) {
            if (compared) {
                return;
            }
            forgetMet();
            for (int r = 0; r < plan.ribs; r++) {
                for (int strength = 1; strength <= MOST_STRENGTH; strength++) {
                    if (strength != ledger.state.strength[r]
                            && fits(plan, ledger, r, strength, MOST_SEEN_DAYS)) {
                        meet();
                    }
                }
            }
            chooseDay();
            compared = true;
        }

        private void forgetMet() {
            for (int i = 0; i < met.length; i++) {
                met[i] = 0;
            }
        }

        private void meet() {
            for (int d = 1; d <= MOST_SEEN_DAYS; d++) {
                met[d * WORDS + (goneOn[d] >> 6)] |= 1L << (goneOn[d] & 63);
            }
        }

        private void chooseDay() {
            lookAfter = NONE;
            lookUnlike = 0;
            for (int d = 1; d <= MOST_SEEN_DAYS; d++) {
                int many = 0;
                for (int i = d * WORDS; i < (d + 1) * WORDS; i++) {
                    many += Long.bitCount(met[i]);
                }
                if (many > lookUnlike) {
                    lookUnlike = many;
                    lookAfter = d;
                }
            }
        }
    }

    /** The draws of YEARS. */
    private static final class Dice {
        int seed = 0;

        int draw(int many) {
            seed = seed * 1103515245 + 12345;
            return many > 0 ? (seed >>> 16 & 32767) % many : 0;
        }
    }
}
