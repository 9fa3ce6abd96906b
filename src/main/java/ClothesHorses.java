import java.util.Arrays;

/**
 * Clothes horses that race with the linen up, as the document (DOC.md) promises.
 * Words in capitals in the comments are the document's.
 */
public final class ClothesHorses {
    /** None. */
    public static final int NONE = -1;

    private static final int OTHERS = -2;

    private static final int MOST_HORSES = 5;
    private static final int MOST_PIECES = 10;
    private static final int MOST_HINGES = 9;
    private static final int MOST_STUFF = 3;
    private static final int MOST_WEIGHT = 9;
    private static final int MOST_WET = 20;
    private static final int MOST_WIND = 9;
    private static final int CELLS = 12;
    private static final int LAST_CELL = 11;
    private static final int LAST_HOUR = 9999;
    private static final int MOST_HOURS = 60;
    private static final int MOST_BOOKED = 30;
    private static final int MOST_STEPS = 30;
    private static final int MOST_PACES = 3;
    private static final int MOST_SHEDS = 10;
    private static final int FIRST_X = 277;

    private static final int MOST_BYTES = 300;
    private static final int FED_BYTES = 20;
    private static final int MOST_TEXTS = 4;
    private static final int MOST_CLAUSES = 24;
    private static final int MOST_NUMBERS = 3;
    private static final int MOST_OPEN = 8;
    private static final int LARGEST_NUMBER = 9999;
    private static final int LARGEST_VALUE = 1000000;

    private static final int MOST_SEED = 9999;
    private static final int MOST_DRAWS = 40;
    private static final int MOST_PACKED = 8;
    private static final int LEAST_ODDS = 2;
    private static final int MOST_ODDS = 20;
    private static final int FIRST_ODDS = 3;
    private static final int MOST_GAIN = 20;
    private static final int MOST_STAKES = 500;
    private static final int MOST_BEATEN = 99;
    private static final int MOST_STRENGTH = 20;
    private static final int MOST_SEEN = 6;
    private static final int MOST_SEEN_HOURS = 12;
    private static final int MOST_SAID = 8;
    private static final int LATEST_SOCK = 5;
    private static final int HEAVIEST_SOCK = 5;
    private static final int LEAST_HEAT = 2;
    private static final int MOST_HEAT = 4;
    /* Five HORSES have ten sets of two, ten of three and five of four. */
    private static final int MOST_SETS = 10;

    /* No weight and no number of UPSETS comes near it. */
    private static final int MORE_THAN_ANY = 1000000;

    /* A TOKEN puts two numbers into a law's code at most. */
    private static final int MOST_CODE = 2 * MOST_BYTES;
    /* Each of the 8 that may be open leaves five values waiting at most, and the law itself three. */
    private static final int MOST_WAITING = 64;

    /*
     * The words stand in an order that makes neighbours of those that belong together: laws are 0 .. 2,
     * CLAUSES 0 .. 9, NAMES 8 .. 17, NAMES of dries alone 15 .. 17. The TOKEN of a word is its place here,
     * the TOKEN of a sign is its byte, and no place is as great as a sign's byte.
     */
    private static final String WORDS = "paces dries sheds horse piece peg sock start wind hour sun hinges load cell who stuff weight wet at to on if then else end or and not tenth winds ";
    private static final int PACES = 0;
    private static final int DRIES = 1;
    private static final int SHEDS = 2;
    private static final int HORSE = 3;
    private static final int PIECE = 4;
    private static final int PEG = 5;
    private static final int SOCK = 6;
    private static final int START = 7;
    private static final int WIND = 8;
    private static final int HOUR = 9;
    private static final int SUN = 10;
    private static final int HINGES = 11;
    private static final int LOAD = 12;
    private static final int CELL = 13;
    private static final int WHO = 14;
    private static final int STUFF = 15;
    private static final int WEIGHT = 16;
    private static final int WET = 17;
    private static final int AT = 18;
    private static final int TO = 19;
    private static final int ON = 20;
    private static final int IF = 21;
    private static final int THEN = 22;
    private static final int ELSE = 23;
    private static final int END = 24;
    private static final int OR = 25;
    private static final int AND = 26;
    private static final int NOT = 27;
    private static final int TENTH = 28;
    private static final int WINDS = 29;
    private static final int LAWS = SHEDS + 1;

    private static final String SIGNS = "<>=#+-*/();";
    private static final int AT_MOST = 128;
    private static final int AT_LEAST = 129;
    private static final int NUMBER = 130;
    private static final int THE_END = 131;
    private static final int NO_TOKEN = 132;
    /* Not a TOKEN: in a law's code it tells the - of one ONE from that of two. */
    private static final int NEGATED = 133;

    private static final int CANT_STAND = 1;
    private static final int NOT_TOLD = 2;
    private static final int TOO_DEEP = 3;
    private static final int TWICE = 4;
    private static final int WRONG_NAME = 5;
    private static final int TOO_MANY = 6;

    private final Course course = new Course();
    private final Told told;
    private final Hearsay hearsay = new Hearsay();
    private final Green green = new Green();
    private final Steps steps = new Steps();

    private final Told imageTold = new Told();
    private final Hearsay imageHearsay = new Hearsay();
    private final Green imageGreen = new Green();
    private final Steps imageSteps = new Steps();

    private final Reader reader = new Reader();
    private final Tape tape;
    private final Green trial = new Green();
    private final Packing packing = new Packing();
    private final Ranking ranks = new Ranking();
    private final Heats meetings = new Heats();

    public ClothesHorses() {
        told = course.told;
        tape = reader.tape;
    }

    public int horse(int hinges) {
        if (!within(hinges, 1, MOST_HINGES) || told.horses >= MOST_HORSES) {
            return NONE;
        }
        int horse = told.horses;
        told.hinges[horse] = hinges;
        told.horses++;
        return horse;
    }

    public int piece(int stuff, int weight, int wet) {
        if (!within(stuff, 0, MOST_STUFF) || !within(weight, 1, MOST_WEIGHT) || !within(wet, 0, MOST_WET)) {
            return NONE;
        }
        if (told.pieces >= MOST_PIECES) {
            return NONE;
        }
        int piece = told.pieces;
        told.stuffs[piece] = stuff;
        told.weights[piece] = weight;
        told.wets[piece] = wet;
        told.pieces++;
        green.learn(told);
        return piece;
    }

    public boolean wind(int cell, int wind) {
        if (!within(cell, 0, LAST_CELL) || !within(wind, 0, MOST_WIND)) {
            return false;
        }
        told.winds[cell] = wind;
        return true;
    }

    public int feed(int a, int b, int c, int d, int e) {
        if (tape.length + FED_BYTES > MOST_BYTES) {
            return NONE;
        }
        tape.add(a);
        tape.add(b);
        tape.add(c);
        tape.add(d);
        tape.add(e);
        return tape.length;
    }

    public int end(int n) {
        if (!within(n, 0, tape.length)) {
            return NONE;
        }
        tape.length = n;
        return n;
    }

    public int text() {
        if (told.texts >= MOST_TEXTS) {
            return NONE;
        }
        Text read = reader.readTape();
        tape.length = 0;
        if (read == null) {
            return NONE;
        }
        int text = told.texts;
        told.written[text] = read;
        told.texts++;
        return text;
    }

    public int fault(int what) {
        switch (what) {
            case 0:
                return reader.fault;
            case 1:
                return reader.place;
            default:
                return NONE;
        }
    }

    public boolean by(int text) {
        if (text != NONE && told.textOf(text) == null) {
            return false;
        }
        told.ruling = text;
        return true;
    }

    public boolean peg(int piece, int horse) {
        if (!canPeg(piece, horse)) {
            return false;
        }
        steps.keep(green);
        green.on[piece] = horse;
        return true;
    }

    public boolean sock(int piece, int wet) {
        if (!within(wet, 1, MOST_WET) || !canWet(piece)) {
            return false;
        }
        steps.keep(green);
        green.wetten(piece, wet);
        return true;
    }

    public boolean start() {
        if (told.horses == 0) {
            return false;
        }
        steps.keep(green);
        green.lineUp();
        return true;
    }

    public int hour(int n) {
        if (!within(n, 1, MOST_HOURS) || n > LAST_HOUR - green.hour) {
            return NONE;
        }
        return passHours(n);
    }

    public int played(int text) {
        Text script = told.textOf(text);
        if (script == null) {
            return OTHERS;
        }
        for (int clause = 0; clause < script.clauses(); clause++) {
            /* HOURS pass from here, not from isDone: no chain of calls is longer than theirs. */
            if (script.kindOf(clause) == HOUR) {
                int n = script.numberOf(clause, 0);
                int can = Math.min(n, LAST_HOUR - green.hour);
                passHours(can);
                if (can < n) {
                    return clause;
                }
            } else if (!isDone(script, clause)) {
                return clause;
            }
        }
        return NONE;
    }

    public int years(int seed, int n) {
        if (!within(seed, 0, MOST_SEED) || !within(n, 1, MOST_DRAWS)) {
            return NONE;
        }
        steps.keep(green);
        green.x = seed * 2 + FIRST_X;
        for (int i = 0; i < n; i++) {
            doDrawn(green.drawn());
        }
        return green.hour;
    }

    public int undo() {
        if (steps.count == 0) {
            return NONE;
        }
        steps.takeBack(green);
        green.learn(told);
        return steps.count;
    }

    public int of(int horse, int what) {
        if (!isHorse(horse)) {
            return NONE;
        }
        switch (what) {
            case 0:
                return told.hinges[horse];
            case 1:
                return green.cell[horse];
            case 2:
                return green.rank[horse];
            case 3:
                return piecesOn(horse);
            case 4:
                return course.weightOn(green, horse);
            case 5:
                return course.paces(told.law(), green, horse, 0);
            case 6:
                return course.sheds(told.law(), green, horse);
            default:
                return NONE;
        }
    }

    public int ofPiece(int piece, int what) {
        if (!isPiece(piece)) {
            return OTHERS;
        }
        switch (what) {
            case 0:
                return told.stuffs[piece];
            case 1:
                return told.weights[piece];
            case 2:
                return green.wet[piece];
            case 3:
                return green.on[piece];
            case 4:
                return course.dries(told.law(), green, piece);
            default:
                return OTHERS;
        }
    }

    public int is(int what) {
        switch (what) {
            case 0:
                return green.hour;
            case 1:
                return green.x;
            case 2:
                return green.sun;
            case 3:
                return green.howManyIn();
            default:
                return OTHERS;
        }
    }

    public int windAt(int cell) {
        return within(cell, 0, LAST_CELL) ? told.winds[cell] : NONE;
    }

    public int book(int i, int what) {
        if (i == NONE) {
            return green.booked;
        }
        if (!within(i, 0, green.booked - 1)) {
            return OTHERS;
        }
        switch (what) {
            case 0:
                return green.bookHour[i];
            case 1:
                return green.bookHorse[i];
            case 2:
                return green.bookRank[i];
            default:
                return OTHERS;
        }
    }

    public int foretold(int n, int what, int which) {
        boolean known = what == 1 ? isPiece(which) : within(what, 0, 2) && isHorse(which);
        if (!within(n, 1, MOST_HOURS) || !known) {
            return NONE;
        }
        trial.takeFrom(green);
        Text law = told.law();
        for (int i = 0; i < n; i++) {
            course.passHour(law, trial);
        }
        switch (what) {
            case 0:
                return trial.cell[which];
            case 1:
                return trial.wet[which];
            default:
                return trial.rank[which];
        }
    }

    public int winner() {
        trial.takeFrom(green);
        Text law = told.law();
        for (int i = 0; i < MOST_HOURS && trial.firstIn() == NONE; i++) {
            course.passHour(law, trial);
        }
        return trial.firstIn();
    }

    public int pack(int n, int i) {
        if (!within(n, 1, Math.min(MOST_PACKED, told.pieces)) || told.horses == 0) {
            return OTHERS;
        }
        if (!within(i, NONE, n - 1)) {
            return OTHERS;
        }
        packing.find(told, green, n);
        return i == NONE ? packing.least : packing.best[i];
    }

    public boolean odds(int horse, int odds) {
        if (!within(horse, 0, MOST_HORSES - 1) || !within(odds, LEAST_ODDS, MOST_ODDS)) {
            return false;
        }
        hearsay.odds[horse] = odds;
        return true;
    }

    public int sure(int gain, int horse) {
        if (!within(gain, 1, MOST_GAIN) || told.horses == 0 || !within(horse, NONE, told.horses - 1)) {
            return NONE;
        }
        for (int stakes = 1; stakes <= MOST_STAKES; stakes++) {
            if (stakesNeeded(stakes + gain) <= stakes) {
                return horse == NONE ? stakes : stakeNeeded(horse, stakes + gain);
            }
        }
        return NONE;
    }

    public boolean beat(int a, int b, int n) {
        if (!within(a, 0, MOST_HORSES - 1) || !within(b, 0, MOST_HORSES - 1) || a == b) {
            return false;
        }
        if (!within(n, 0, MOST_BEATEN)) {
            return false;
        }
        hearsay.beaten[a][b] = n;
        return true;
    }

    public int ranking(int i) {
        if (!within(i, NONE, told.horses - 1)) {
            return OTHERS;
        }
        ranks.find(hearsay.beaten, told.horses);
        return i == NONE ? ranks.least : ranks.best[i];
    }

    public int kings() {
        int kings = 0;
        for (int horse = 0; horse < told.horses; horse++) {
            if (isKing(horse)) {
                kings |= 1 << horse;
            }
        }
        return kings;
    }

    public int rings() {
        int rings = 0;
        for (int a = 0; a < told.horses; a++) {
            for (int b = a + 1; b < told.horses; b++) {
                for (int c = b + 1; c < told.horses; c++) {
                    if (isRing(a, b, c) || isRing(c, b, a)) {
                        rings++;
                    }
                }
            }
        }
        return rings;
    }

    public int heats(int size, int i) {
        if (!within(size, LEAST_HEAT, Math.min(MOST_HEAT, told.horses))) {
            return OTHERS;
        }
        meetings.find(told.horses, size);
        if (!within(i, NONE, meetings.count - 1)) {
            return OTHERS;
        }
        return i == NONE ? meetings.count : meetings.best[i];
    }

    public boolean strength(int horse, int strength) {
        if (!within(horse, 0, MOST_HORSES - 1) || !within(strength, 1, MOST_STRENGTH)) {
            return false;
        }
        hearsay.strengths[horse] = strength;
        return true;
    }

    public int first(int horse, boolean low) {
        if (!isHorse(horse)) {
            return NONE;
        }
        return (int) lowestTerms(hearsay.strengths[horse], allStrengths(), low);
    }

    public int order(int a, int b, boolean low) {
        if (!isHorse(a) || !isHorse(b) || a == b) {
            return NONE;
        }
        int all = allStrengths();
        int upper = hearsay.strengths[a] * hearsay.strengths[b];
        return (int) lowestTerms(upper, all * (all - hearsay.strengths[a]), low);
    }

    public long two(int horse, boolean low) {
        if (!isHorse(horse) || told.horses < 2) {
            return NONE;
        }
        long all = allStrengths();
        long upper = 1;
        long lower = 1;
        /* 1 and all parts strength / (all - strength) of the others, over one lower number. */
        for (int other = 0; other < told.horses; other++) {
            if (other != horse) {
                long rest = all - hearsay.strengths[other];
                upper = upper * rest + hearsay.strengths[other] * lower;
                lower = lower * rest;
            }
        }
        return lowestTerms(upper * hearsay.strengths[horse], lower * all, low);
    }

    public int see(int n, int cell) {
        if (n == NONE) {
            hearsay.seen = 0;
            return 0;
        }
        if (!within(n, 1, MOST_SEEN_HOURS) || !within(cell, 0, LAST_CELL) || hearsay.seen >= MOST_SEEN) {
            return OTHERS;
        }
        hearsay.seenHours[hearsay.seen] = n;
        hearsay.seenCells[hearsay.seen] = cell;
        hearsay.seen++;
        return hearsay.seen;
    }

    public int nobbled(int horse, int what) {
        if (!isHorse(horse) || !within(what, 0, 2)) {
            return OTHERS;
        }
        if (what == 1) {
            return isAsSeen(horse, 0, 0) ? 1 : 0;
        }
        int ways = 0;
        for (int behind = 0; behind <= LATEST_SOCK; behind++) {
            for (int sock = 1; sock <= HEAVIEST_SOCK; sock++) {
                if (isAsSeen(horse, behind, sock)) {
                    if (what == 2) {
                        return 10 * behind + sock;
                    }
                    ways++;
                }
            }
        }
        return what == 2 ? NONE : ways;
    }

    public int dry(int horse) {
        if (!isHorse(horse)) {
            return NONE;
        }
        trial.takeFrom(green);
        Text law = told.law();
        for (int hours = 0; hours <= MOST_HOURS; hours++) {
            if (trial.isDry(horse)) {
                return hours;
            }
            course.air(law, trial, horse);
        }
        return NONE;
    }

    public int said(int piece, int dries) {
        if (piece == NONE) {
            hearsay.said = 0;
            return 0;
        }
        if (!isPiece(piece) || !within(dries, 0, MOST_WET) || hearsay.said >= MOST_SAID) {
            return OTHERS;
        }
        hearsay.saidPieces[hearsay.said] = piece;
        hearsay.saidDries[hearsay.said] = dries;
        hearsay.said++;
        return hearsay.said;
    }

    public int whose() {
        int whose = 0;
        for (int text = 0; text < told.texts; text++) {
            if (isAsSaid(told.written[text])) {
                whose |= 1 << text;
            }
        }
        return whose;
    }

    public int lead() {
        int lead = NONE;
        int greatest = 0;
        for (int horse = 0; horse < told.horses; horse++) {
            if (green.rank[horse] == 0 && green.cell[horse] > greatest) {
                lead = horse;
                greatest = green.cell[horse];
            }
        }
        return lead;
    }

    public int heaviest() {
        int heaviest = NONE;
        int most = 0;
        for (int horse = 0; horse < told.horses; horse++) {
            int weight = course.weightOn(green, horse);
            if (weight > most) {
                heaviest = horse;
                most = weight;
            }
        }
        return heaviest;
    }

    public int grass() {
        return piecesOn(NONE);
    }

    public int wettest() {
        int wettest = NONE;
        int most = 0;
        for (int piece = 0; piece < told.pieces; piece++) {
            if (green.wet[piece] > most) {
                wettest = piece;
                most = green.wet[piece];
            }
        }
        return wettest;
    }

    public int wins(int horse) {
        return isHorse(horse) ? green.timesBooked(horse, 1) : NONE;
    }

    public int ledger(int horse) {
        if (horse == NONE) {
            return green.booked;
        }
        return isHorse(horse) ? green.timesBooked(horse, MOST_HORSES) : OTHERS;
    }

    public int image() {
        imageTold.takeFrom(told);
        imageHearsay.takeFrom(hearsay);
        imageGreen.takeFrom(green);
        imageSteps.takeFrom(steps);
        return green.hour;
    }

    public int back() {
        told.takeFrom(imageTold);
        hearsay.takeFrom(imageHearsay);
        green.takeFrom(imageGreen);
        steps.takeFrom(imageSteps);
        return green.hour;
    }

    public int about(int what) {
        switch (what) {
            case 0:
                return told.horses;
            case 1:
                return told.pieces;
            case 2:
                return told.texts;
            case 3:
                return told.ruling;
            case 4:
                return steps.count;
            case 5:
                return hearsay.seen;
            case 6:
                return hearsay.said;
            case 7:
                return tape.length;
            default:
                return OTHERS;
        }
    }

    private static boolean within(int n, int least, int most) {
        return least <= n && n <= most;
    }

    private boolean isHorse(int horse) {
        return within(horse, 0, told.horses - 1);
    }

    private boolean isPiece(int piece) {
        return within(piece, 0, told.pieces - 1);
    }

    private boolean canPeg(int piece, int horse) {
        return isPiece(piece) && isHorse(horse) && green.on[piece] == NONE && green.rank[horse] == 0;
    }

    private boolean canWet(int piece) {
        return isPiece(piece) && green.wet[piece] < MOST_WET;
    }

    private int passHours(int n) {
        Text law = told.law();
        int were = green.howManyIn();
        for (int i = 0; i < n; i++) {
            steps.keep(green);
            course.passHour(law, green);
        }
        return green.howManyIn() - were;
    }

    /** Does a CLAUSE that is neither a law nor HOURS; false if it can't be. */
    private boolean isDone(Text script, int clause) {
        int one = script.numberOf(clause, 0);
        int other = script.numberOf(clause, 1);
        switch (script.kindOf(clause)) {
            case HORSE:
                return horse(one) != NONE;
            case PIECE:
                return piece(one, other, script.numberOf(clause, 2)) != NONE;
            case WIND:
                return wind(other, one);
            case PEG:
                return peg(one, other);
            case SOCK:
                return sock(other, one);
            case START:
                return start();
            default:
                return true;
        }
    }

    private void doDrawn(int x) {
        int piece = told.pieces > 0 ? x % told.pieces : NONE;
        int horse = told.horses > 0 ? x / 6 % told.horses : NONE;
        switch (x % 6) {
            case 0:
            case 1:
                if (canPeg(piece, horse)) {
                    green.on[piece] = horse;
                }
                break;
            case 2:
                if (canWet(piece)) {
                    green.wetten(piece, 1 + x % 9);
                }
                break;
            case 3:
                /* Such an x is odd, so the document's own condition never holds; it stands as told. */
                if (x % 4 == 0 && told.horses > 0) {
                    green.lineUp();
                }
                break;
            default:
                course.passHour(told.law(), green);
                break;
        }
    }

    /** PIECES (bits) on a HORSE, or on the grass (NONE). */
    private int piecesOn(int horse) {
        int bits = 0;
        for (int piece = 0; piece < told.pieces; piece++) {
            if (green.on[piece] == horse) {
                bits |= 1 << piece;
            }
        }
        return bits;
    }

    private int stakeNeeded(int horse, int due) {
        int odds = hearsay.odds[horse];
        return odds > 0 ? (due + odds - 1) / odds : due;
    }

    private int stakesNeeded(int due) {
        int stakes = 0;
        for (int horse = 0; horse < told.horses; horse++) {
            stakes += stakeNeeded(horse, due);
        }
        return stakes;
    }

    private boolean isBetter(int a, int b) {
        return hearsay.beaten[a][b] > hearsay.beaten[b][a];
    }

    private boolean isRing(int a, int b, int c) {
        return isBetter(a, b) && isBetter(b, c) && isBetter(c, a);
    }

    private boolean isKing(int horse) {
        for (int other = 0; other < told.horses; other++) {
            boolean mastered = other == horse || isBetter(horse, other);
            for (int between = 0; between < told.horses && !mastered; between++) {
                mastered = isBetter(horse, between) && isBetter(between, other);
            }
            if (!mastered) {
                return false;
            }
        }
        return true;
    }

    private int allStrengths() {
        int all = 0;
        for (int horse = 0; horse < told.horses; horse++) {
            all += hearsay.strengths[horse];
        }
        return all;
    }

    private static long lowestTerms(long upper, long lower, boolean low) {
        long divisor = lower;
        long rest = upper;
        /* Euclid's steps: two numbers below 2 to the 63 take fewer than 100. */
        for (int i = 0; i < 100 && rest != 0; i++) {
            long next = divisor % rest;
            divisor = rest;
            rest = next;
        }
        if (divisor == 0) {
            return NONE;
        }
        return low ? lower / divisor : upper / divisor;
    }

    /** Whether a HORSE with a sock from the HOUR behind so many others on is where it was SEEN. */
    private boolean isAsSeen(int horse, int behind, int sock) {
        trial.takeFrom(green);
        trial.cell[horse] = 0;
        Text law = told.law();
        for (int hours = 0; hours < MOST_SEEN_HOURS; hours++) {
            course.air(law, trial, horse);
            course.goOn(law, trial, horse, hours >= behind ? sock : 0);
            if (!hearsay.agrees(hours + 1, trial.cell[horse])) {
                return false;
            }
        }
        return true;
    }

    private boolean isAsSaid(Text law) {
        for (int i = 0; i < hearsay.said; i++) {
            int piece = hearsay.saidPieces[i];
            if (green.on[piece] != NONE && course.dries(law, green, piece) != hearsay.saidDries[i]) {
                return false;
            }
        }
        return true;
    }

    /** HORSES, PIECES, WIND and TEXTS as they were told. */
    private static final class Told {
        int horses;
        final int[] hinges = new int[MOST_HORSES];
        int pieces;
        final int[] stuffs = new int[MOST_PIECES];
        final int[] weights = new int[MOST_PIECES];
        final int[] wets = new int[MOST_PIECES];
        final int[] winds = new int[CELLS];
        int texts;
        final Text[] written = new Text[MOST_TEXTS];
        int ruling = NONE;

        Told() {
            Arrays.fill(winds, 4);
        }

        /** The TEXT of that number, or null. */
        Text textOf(int text) {
            return within(text, 0, texts - 1) ? written[text] : null;
        }

        /** THE TEXT, or null. */
        Text law() {
            return textOf(ruling);
        }

        /** WIND of a CELL, 0 for others. */
        int windOf(int cell) {
            return cell >= 0 && cell < CELLS ? winds[cell] : 0;
        }

        void takeFrom(Told other) {
            horses = other.horses;
            pieces = other.pieces;
            texts = other.texts;
            ruling = other.ruling;
            System.arraycopy(other.hinges, 0, hinges, 0, MOST_HORSES);
            System.arraycopy(other.stuffs, 0, stuffs, 0, MOST_PIECES);
            System.arraycopy(other.weights, 0, weights, 0, MOST_PIECES);
            System.arraycopy(other.wets, 0, wets, 0, MOST_PIECES);
            System.arraycopy(other.winds, 0, winds, 0, CELLS);
            for (int text = 0; text < MOST_TEXTS; text++) {
                written[text] = other.written[text];
            }
        }
    }

    /** ODDS, BEATEN, STRENGTHS, SEEN and SAID as they were told. */
    private static final class Hearsay {
        final int[] odds = new int[MOST_HORSES];
        final int[][] beaten = new int[MOST_HORSES][MOST_HORSES];
        final int[] strengths = new int[MOST_HORSES];
        int seen;
        final int[] seenHours = new int[MOST_SEEN];
        final int[] seenCells = new int[MOST_SEEN];
        int said;
        final int[] saidPieces = new int[MOST_SAID];
        final int[] saidDries = new int[MOST_SAID];

        Hearsay() {
            Arrays.fill(odds, FIRST_ODDS);
            Arrays.fill(strengths, 1);
        }

        /** Whether nothing SEEN behind so many HOURS speaks against that CELL. */
        boolean agrees(int hours, int cell) {
            for (int i = 0; i < seen; i++) {
                if (seenHours[i] == hours && seenCells[i] != cell) {
                    return false;
                }
            }
            return true;
        }

        void takeFrom(Hearsay other) {
            seen = other.seen;
            said = other.said;
            System.arraycopy(other.odds, 0, odds, 0, MOST_HORSES);
            System.arraycopy(other.strengths, 0, strengths, 0, MOST_HORSES);
            System.arraycopy(other.seenHours, 0, seenHours, 0, MOST_SEEN);
            System.arraycopy(other.seenCells, 0, seenCells, 0, MOST_SEEN);
            System.arraycopy(other.saidPieces, 0, saidPieces, 0, MOST_SAID);
            System.arraycopy(other.saidDries, 0, saidDries, 0, MOST_SAID);
            for (int horse = 0; horse < MOST_HORSES; horse++) {
                System.arraycopy(other.beaten[horse], 0, beaten[horse], 0, MOST_HORSES);
            }
        }
    }

    /** All that STEPS change, and that is as it was when one is taken back. */
    private static final class Green {
        final int[] cell = new int[MOST_HORSES];
        final int[] rank = new int[MOST_HORSES];
        final int[] wet = new int[MOST_PIECES];
        final int[] on = new int[MOST_PIECES];
        /* How many PIECES had been told when this was so. */
        int known;
        int sun;
        int hour;
        int x = FIRST_X;
        int booked;
        final int[] bookHour = new int[MOST_BOOKED];
        final int[] bookHorse = new int[MOST_BOOKED];
        final int[] bookRank = new int[MOST_BOOKED];

        Green() {
            Arrays.fill(on, NONE);
        }

        void takeFrom(Green other) {
            known = other.known;
            sun = other.sun;
            hour = other.hour;
            x = other.x;
            booked = other.booked;
            System.arraycopy(other.cell, 0, cell, 0, MOST_HORSES);
            System.arraycopy(other.rank, 0, rank, 0, MOST_HORSES);
            System.arraycopy(other.wet, 0, wet, 0, MOST_PIECES);
            System.arraycopy(other.on, 0, on, 0, MOST_PIECES);
            System.arraycopy(other.bookHour, 0, bookHour, 0, MOST_BOOKED);
            System.arraycopy(other.bookHorse, 0, bookHorse, 0, MOST_BOOKED);
            System.arraycopy(other.bookRank, 0, bookRank, 0, MOST_BOOKED);
        }

        /** PIECES told since are as told. */
        void learn(Told told) {
            for (int piece = known; piece < told.pieces; piece++) {
                wet[piece] = told.wets[piece];
                on[piece] = NONE;
            }
            known = told.pieces;
        }

        int drawn() {
            int was = x;
            x = (x * 523 + 409) % 30707;
            return was;
        }

        void wetten(int piece, int by) {
            wet[piece] = Math.min(MOST_WET, wet[piece] + by);
        }

        void lineUp() {
            Arrays.fill(cell, 0);
            Arrays.fill(rank, 0);
        }

        int howManyIn() {
            int in = 0;
            for (int horse = 0; horse < MOST_HORSES; horse++) {
                if (rank[horse] > 0) {
                    in++;
                }
            }
            return in;
        }

        /** The HORSE of RANK 1, or NONE. */
        int firstIn() {
            for (int horse = 0; horse < MOST_HORSES; horse++) {
                if (rank[horse] == 1) {
                    return horse;
                }
            }
            return NONE;
        }

        int lowestOn(int horse) {
            for (int piece = 0; piece < known; piece++) {
                if (on[piece] == horse) {
                    return piece;
                }
            }
            return NONE;
        }

        boolean isDry(int horse) {
            for (int piece = 0; piece < known; piece++) {
                if (on[piece] == horse && wet[piece] > 0) {
                    return false;
                }
            }
            return true;
        }

        /** Comes in, if it is there with all PIECES dry. */
        void comeIn(int horse) {
            if (cell[horse] < LAST_CELL || !isDry(horse)) {
                return;
            }
            rank[horse] = howManyIn() + 1;
            if (booked >= MOST_BOOKED) {
                forgetEldest();
            }
            bookHour[booked] = hour;
            bookHorse[booked] = horse;
            bookRank[booked] = rank[horse];
            booked++;
        }

        private void forgetEldest() {
            booked = MOST_BOOKED - 1;
            System.arraycopy(bookHour, 1, bookHour, 0, booked);
            System.arraycopy(bookHorse, 1, bookHorse, 0, booked);
            System.arraycopy(bookRank, 1, bookRank, 0, booked);
        }

        /** How often a HORSE is in the BOOK with a RANK of so much at most. */
        int timesBooked(int horse, int lowestRank) {
            int times = 0;
            for (int i = 0; i < booked; i++) {
                if (bookHorse[i] == horse && bookRank[i] <= lowestRank) {
                    times++;
                }
            }
            return times;
        }
    }

    /** The latest STEPS: what was ahead of each. */
    private static final class Steps {
        private final Green[] kept = new Green[MOST_STEPS];
        private int next;
        int count;

        Steps() {
            for (int i = 0; i < MOST_STEPS; i++) {
                kept[i] = new Green();
            }
        }

        void keep(Green green) {
            kept[next].takeFrom(green);
            next = (next + 1) % MOST_STEPS;
            count = Math.min(MOST_STEPS, count + 1);
        }

        void takeBack(Green green) {
            if (count > 0) {
                next = (next + MOST_STEPS - 1) % MOST_STEPS;
                count--;
                green.takeFrom(kept[next]);
            }
        }

        void takeFrom(Steps other) {
            next = other.next;
            count = other.count;
            for (int i = 0; i < MOST_STEPS; i++) {
                kept[i].takeFrom(other.kept[i]);
            }
        }
    }

    /** A TEXT that was read without a FAULT: its CLAUSES, and the code of its laws. */
    private static final class Text {
        private final int[] kinds;
        private final int[] numbers;
        private final int[] code;
        private final int[] begins;
        private final int[] ends;

        Text(int[] kinds, int[] numbers, int[] code, int[] begins, int[] ends) {
            this.kinds = kinds;
            this.numbers = numbers;
            this.code = code;
            this.begins = begins;
            this.ends = ends;
        }

        int clauses() {
            return kinds.length;
        }

        int kindOf(int clause) {
            return within(clause, 0, kinds.length - 1) ? kinds[clause] : NO_TOKEN;
        }

        int numberOf(int clause, int which) {
            int i = clause * MOST_NUMBERS + which;
            return within(i, 0, numbers.length - 1) ? numbers[i] : 0;
        }

        boolean hasLaw(int law) {
            return within(law, 0, begins.length - 1) && begins[law] != NONE;
        }

        int beginOf(int law) {
            return within(law, 0, begins.length - 1) ? begins[law] : 0;
        }

        int endOf(int law) {
            return within(law, 0, ends.length - 1) ? ends[law] : 0;
        }

        int codeAt(int i) {
            return within(i, 0, code.length - 1) ? code[i] : NO_TOKEN;
        }
    }

    /** The bytes that were fed, the TOKENS in them, and the one that is come to. */
    private static final class Tape {
        private final int[] bytes = new int[MOST_BYTES];
        private int next;
        int length;
        private final int[] tokens = new int[MOST_BYTES + 1];
        private final int[] values = new int[MOST_BYTES + 1];
        private final int[] places = new int[MOST_BYTES + 1];
        private int last;
        private int current;

        void add(int four) {
            for (int shift = 24; shift >= 0 && length < MOST_BYTES; shift -= 8) {
                bytes[length] = four >> shift & 255;
                length++;
            }
        }

        /** Finds all TOKENS, the end being the last, and comes to the first. */
        void cut() {
            current = 0;
            last = 0;
            next = behindBlanks(0);
            while (next < length && last < MOST_BYTES) {
                places[last] = next;
                values[last] = 0;
                cutToken(byteAt(next));
                last++;
                next = behindBlanks(next);
            }
            tokens[last] = THE_END;
            values[last] = 0;
            places[last] = length;
        }

        void advance() {
            current = Math.min(last, current + 1);
        }

        int token() {
            return tokens[current];
        }

        int value() {
            return values[current];
        }

        int place() {
            return places[current];
        }

        private int byteAt(int i) {
            return within(i, 0, length - 1) ? bytes[i] : NONE;
        }

        private void cutToken(int sign) {
            if (isDigit(sign)) {
                tokens[last] = NUMBER;
                values[last] = cutNumber();
            } else if (isLetter(sign)) {
                next = behindLetters(next);
                tokens[last] = wordOf(places[last], next - places[last]);
            } else {
                tokens[last] = signOf(sign, byteAt(next + 1));
                next += tokens[last] == AT_MOST || tokens[last] == AT_LEAST ? 2 : 1;
            }
        }

        private static boolean isDigit(int sign) {
            return within(sign, '0', '9');
        }

        private static boolean isLetter(int sign) {
            return within(sign, 'a', 'z') || within(sign, 'A', 'Z');
        }

        private int behindBlanks(int from) {
            int i = from;
            while (i < length && (byteAt(i) == ' ' || byteAt(i) == '\n')) {
                i++;
            }
            return i;
        }

        private int behindLetters(int from) {
            int i = from;
            while (i < length && isLetter(byteAt(i))) {
                i++;
            }
            return i;
        }

        /* However many digits come, the value stays one above the largest NUMBER. */
        private int cutNumber() {
            int value = 0;
            while (next < length && isDigit(byteAt(next))) {
                value = Math.min(LARGEST_NUMBER + 1, value * 10 + byteAt(next) - '0');
                next++;
            }
            return value;
        }

        private int wordOf(int from, int letters) {
            int word = 0;
            int matched = 0;
            boolean same = true;
            for (int i = 0; i < WORDS.length(); i++) {
                if (WORDS.charAt(i) != ' ') {
                    same = same && byteAt(from + matched) == WORDS.charAt(i);
                    matched++;
                } else if (same && matched == letters) {
                    return word;
                } else {
                    word++;
                    matched = 0;
                    same = true;
                }
            }
            return NO_TOKEN;
        }

        private static int signOf(int sign, int following) {
            if (following == '=' && sign == '<') {
                return AT_MOST;
            }
            if (following == '=' && sign == '>') {
                return AT_LEAST;
            }
            return SIGNS.indexOf((char) sign) >= 0 ? sign : NO_TOKEN;
        }
    }

    /**
     * Reads the tape as a TEXT. A law's code is its TOKENS with each operation behind what it takes, so that
     * it is reckoned without recursion, however long the SUM is.
     */
    private static final class Reader {
        final Tape tape = new Tape();
        private final int[] kinds = new int[MOST_CLAUSES];
        private final int[] numbers = new int[MOST_CLAUSES * MOST_NUMBERS];
        private int clauses;
        private final int[] code = new int[MOST_CODE];
        private int coded;
        private final int[] begins = new int[LAWS];
        private final int[] ends = new int[LAWS];
        private int law;
        /* The latest FAULT, NONE ahead of any TEXT. */
        int fault = NONE;
        int place = NONE;

        /** The TEXT, or null if it has a FAULT. */
        Text readTape() {
            fault = 0;
            place = NONE;
            clauses = 0;
            coded = 0;
            Arrays.fill(numbers, 0);
            Arrays.fill(begins, NONE);
            Arrays.fill(ends, 0);
            tape.cut();
            boolean sound = true;
            for (int i = 0; i <= MOST_CLAUSES && sound && tape.token() != THE_END; i++) {
                sound = readClause();
            }
            if (!sound) {
                return null;
            }
            return new Text(Arrays.copyOf(kinds, clauses), Arrays.copyOf(numbers, clauses * MOST_NUMBERS),
                Arrays.copyOf(code, coded), begins.clone(), ends.clone());
        }

        private boolean readClause() {
            int kind = tape.token();
            if (!within(kind, PACES, HOUR)) {
                return refuse(CANT_STAND);
            }
            if (kind < LAWS && begins[kind] != NONE) {
                return refuse(TWICE);
            }
            if (clauses >= MOST_CLAUSES) {
                return refuse(TOO_MANY);
            }
            tape.advance();
            boolean sound = (kind < LAWS ? readLaw(kind) : readDeed(kind)) && taken(';');
            kinds[clauses] = kind;
            clauses++;
            return sound;
        }

        private boolean readLaw(int kind) {
            law = kind;
            begins[kind] = coded;
            boolean sound = sum(0);
            ends[kind] = coded;
            return sound;
        }

        private boolean readDeed(int kind) {
            switch (kind) {
                case HORSE:
                    return number(0, 1, MOST_HINGES);
                case PIECE:
                    return number(0, 0, MOST_STUFF) && taken(WEIGHT) && number(1, 1, MOST_WEIGHT)
                        && taken(WET) && number(2, 0, MOST_WET);
                case WIND:
                    return number(0, 0, MOST_WIND) && taken(AT) && number(1, 0, LAST_CELL);
                case PEG:
                    return number(0, 0, MOST_PIECES - 1) && taken(TO) && number(1, 0, MOST_HORSES - 1);
                case SOCK:
                    return number(0, 1, MOST_WET) && taken(ON) && number(1, 0, MOST_PIECES - 1);
                case HOUR:
                    return number(0, 1, MOST_HOURS);
                default:
                    return true;
            }
        }

        private boolean refuse(int why) {
            fault = why;
            place = tape.place();
            return false;
        }

        private boolean taken(int token) {
            if (tape.token() != token) {
                return refuse(CANT_STAND);
            }
            tape.advance();
            return true;
        }

        private boolean number(int which, int least, int most) {
            if (tape.token() != NUMBER) {
                return refuse(CANT_STAND);
            }
            if (!within(tape.value(), least, most)) {
                return refuse(NOT_TOLD);
            }
            int i = clauses * MOST_NUMBERS + which;
            if (i < numbers.length) {
                numbers[i] = tape.value();
            }
            tape.advance();
            return true;
        }

        private boolean put(int operation) {
            if (coded >= MOST_CODE) {
                return false;
            }
            code[coded] = operation;
            coded++;
            return true;
        }

        /** A jump whose aim is put in when it is known: where that is. */
        private int putJump(int operation) {
            put(operation);
            put(0);
            return coded - 1;
        }

        private boolean aimHere(int jump) {
            if (within(jump, 0, coded - 1)) {
                code[jump] = coded;
            }
            return true;
        }

        private boolean sum(int open) {
            boolean sound = product(open);
            for (int i = 0; i < MOST_BYTES && sound && (tape.token() == '+' || tape.token() == '-'); i++) {
                int operation = tape.token();
                tape.advance();
                sound = product(open) && put(operation);
            }
            return sound;
        }

        private boolean product(int open) {
            boolean sound = one(open);
            for (int i = 0; i < MOST_BYTES && sound && (tape.token() == '*' || tape.token() == '/'); i++) {
                int operation = tape.token();
                tape.advance();
                sound = one(open) && put(operation);
            }
            return sound;
        }

        private boolean one(int open) {
            int token = tape.token();
            if (token == NUMBER) {
                return plainNumber();
            }
            if (within(token, WIND, WET)) {
                return name(token);
            }
            if (token != '(' && token != '-' && token != TENTH && token != WINDS && token != IF) {
                return refuse(CANT_STAND);
            }
            if (open >= MOST_OPEN) {
                return refuse(TOO_DEEP);
            }
            tape.advance();
            if (token == '(') {
                return sum(open + 1) && taken(')');
            }
            if (token == IF) {
                return choice(open + 1);
            }
            return one(open + 1) && put(token == '-' ? NEGATED : token);
        }

        private boolean plainNumber() {
            if (tape.value() > LARGEST_NUMBER) {
                return refuse(NOT_TOLD);
            }
            boolean sound = put(NUMBER) && put(tape.value());
            tape.advance();
            return sound;
        }

        private boolean name(int name) {
            if (name >= STUFF && law != DRIES) {
                return refuse(WRONG_NAME);
            }
            tape.advance();
            return put(name);
        }

        /** What stands behind if: only the code of the SUM that is chosen is come to. */
        private boolean choice(int open) {
            if (!either(open) || !taken(THEN)) {
                return false;
            }
            int toElse = putJump(THEN);
            if (!sum(open) || !taken(ELSE)) {
                return false;
            }
            int toEnd = putJump(ELSE);
            aimHere(toElse);
            return sum(open) && aimHere(toEnd) && taken(END);
        }

        private boolean either(int open) {
            boolean sound = both(open);
            for (int i = 0; i < MOST_BYTES && sound && tape.token() == OR; i++) {
                tape.advance();
                sound = both(open) && put(OR);
            }
            return sound;
        }

        private boolean both(int open) {
            boolean sound = ask(open);
            for (int i = 0; i < MOST_BYTES && sound && tape.token() == AND; i++) {
                tape.advance();
                sound = ask(open) && put(AND);
            }
            return sound;
        }

        private boolean ask(int open) {
            if (tape.token() == NOT) {
                if (open >= MOST_OPEN) {
                    return refuse(TOO_DEEP);
                }
                tape.advance();
                return ask(open + 1) && put(NOT);
            }
            if (!sum(open)) {
                return false;
            }
            int operation = tape.token();
            if (!isComparison(operation)) {
                return refuse(CANT_STAND);
            }
            tape.advance();
            return sum(open) && put(operation);
        }

        private static boolean isComparison(int token) {
            return token == '<' || token == '>' || token == '=' || token == '#'
                || token == AT_MOST || token == AT_LEAST;
        }
    }

    /** What is told, the laws, and how an HOUR passes by them; the TEXT of a law may be null. */
    private static final class Course {
        final Told told = new Told();
        private final int[] names = new int[WET + 1];
        private final int[] waiting = new int[MOST_WAITING];

        int weightOn(Green green, int horse) {
            int weight = 0;
            for (int piece = 0; piece < told.pieces; piece++) {
                if (green.on[piece] == horse) {
                    weight += told.weights[piece] + green.wet[piece];
                }
            }
            return weight;
        }

        int paces(Text text, Green green, int horse, int sock) {
            int weight = weightOn(green, horse) + sock;
            if (text == null || !text.hasLaw(PACES)) {
                return 1 + (told.hinges[horse] > 5 ? 1 : 0) + (weight < 20 ? 1 : 0);
            }
            nameHorse(green, horse, weight);
            return limited(reckoned(text, PACES), 0, MOST_PACES);
        }

        int sheds(Text text, Green green, int horse) {
            if (text == null || !text.hasLaw(SHEDS)) {
                return 1;
            }
            nameHorse(green, horse, weightOn(green, horse));
            return limited(reckoned(text, SHEDS), 0, MOST_SHEDS);
        }

        /** NONE for a PIECE on the grass. */
        int dries(Text text, Green green, int piece) {
            int horse = green.on[piece];
            if (horse == NONE) {
                return NONE;
            }
            if (text == null || !text.hasLaw(DRIES)) {
                return 1 + (green.sun + told.windOf(green.cell[horse])) / 5;
            }
            nameHorse(green, horse, weightOn(green, horse));
            names[STUFF] = told.stuffs[piece];
            names[WEIGHT] = told.weights[piece];
            names[WET] = green.wet[piece];
            return limited(reckoned(text, DRIES), 0, MOST_WET);
        }

        /** Nothing is done if no HOUR can pass. */
        void passHour(Text text, Green green) {
            if (green.hour >= LAST_HOUR) {
                return;
            }
            green.sun = green.drawn() % 10;
            for (int horse = 0; horse < told.horses; horse++) {
                if (green.rank[horse] == 0) {
                    air(text, green, horse);
                    if (!hasShed(text, green, horse)) {
                        goOn(text, green, horse, 0);
                        green.comeIn(horse);
                    }
                }
            }
            green.hour++;
        }

        /** The PIECES dry one behind the other: each finds the load that those ahead of it have left. */
        void air(Text text, Green green, int horse) {
            for (int piece = 0; piece < told.pieces; piece++) {
                if (green.on[piece] == horse) {
                    green.wet[piece] = Math.max(0, green.wet[piece] - dries(text, green, piece));
                }
            }
        }

        /** A HORSE without PIECES draws nothing. */
        private boolean hasShed(Text text, Green green, int horse) {
            int lowest = green.lowestOn(horse);
            if (lowest == NONE || green.drawn() % 10 >= sheds(text, green, horse)) {
                return false;
            }
            green.on[lowest] = NONE;
            return true;
        }

        void goOn(Text text, Green green, int horse, int sock) {
            green.cell[horse] = Math.min(LAST_CELL, green.cell[horse] + paces(text, green, horse, sock));
        }

        private void nameHorse(Green green, int horse, int weight) {
            names[HOUR] = green.hour;
            names[SUN] = green.sun;
            names[WIND] = told.windOf(green.cell[horse]);
            names[HINGES] = told.hinges[horse];
            names[LOAD] = weight;
            names[CELL] = green.cell[horse];
            names[WHO] = horse;
        }

        /* Jumps go forwards alone, so each turn leaves less of the code. */
        private int reckoned(Text text, int law) {
            int count = 0;
            int at = text.beginOf(law);
            int end = text.endOf(law);
            for (int turn = 0; turn < MOST_CODE && at < end; turn++) {
                int operation = text.codeAt(at);
                int taken = takenBy(operation);
                if (count < taken || count + 1 >= MOST_WAITING) {
                    return 0;
                }
                count -= taken;
                at++;
                if (operation == THEN || operation == ELSE) {
                    boolean jumps = operation == ELSE || waiting[count] == 0;
                    at = jumps ? text.codeAt(at) : at + 1;
                } else if (operation == NUMBER) {
                    waiting[count] = text.codeAt(at);
                    at++;
                    count++;
                } else {
                    long value = taken == 2 ? ofTwo(operation, waiting[count], waiting[count + 1])
                        : taken == 1 ? ofOne(operation, waiting[count]) : named(operation);
                    waiting[count] = limited(value, -LARGEST_VALUE, LARGEST_VALUE);
                    count++;
                }
            }
            return count > 0 ? waiting[0] : 0;
        }

        /** How many values an operation takes from those that wait. */
        private static int takenBy(int operation) {
            if (operation <= WET || operation == ELSE || operation == NUMBER) {
                return 0;
            }
            switch (operation) {
                case THEN:
                case NOT:
                case NEGATED:
                case TENTH:
                case WINDS:
                    return 1;
                default:
                    return 2;
            }
        }

        private int named(int name) {
            return within(name, 0, WET) ? names[name] : 0;
        }

        private int ofOne(int operation, int value) {
            switch (operation) {
                case NOT:
                    return value == 0 ? 1 : 0;
                case NEGATED:
                    return -value;
                case TENTH:
                    return Math.floorDiv(value, 10);
                default:
                    return told.windOf(value);
            }
        }

        private static long ofTwo(int operation, long left, long right) {
            switch (operation) {
                case '+':
                    return left + right;
                case '-':
                    return left - right;
                case '*':
                    return left * right;
                case '/':
                    return right == 0 ? 0 : left / right;
                case '<':
                    return left < right ? 1 : 0;
                case '>':
                    return left > right ? 1 : 0;
                case '=':
                    return left == right ? 1 : 0;
                case '#':
                    return left != right ? 1 : 0;
                case AT_MOST:
                    return left <= right ? 1 : 0;
                case AT_LEAST:
                    return left >= right ? 1 : 0;
                case OR:
                    return left | right;
                default:
                    return left & right;
            }
        }

        private static int limited(long value, int least, int most) {
            return (int) Math.max(least, Math.min(most, value));
        }
    }

    /** PACKED. */
    private static final class Packing {
        private final int[] burdens = new int[MOST_PACKED];
        private final int[] loads = new int[MOST_HORSES];
        private final int[] places = new int[MOST_PACKED];
        private int horses;
        private int pieces;
        final int[] best = new int[MOST_PACKED];
        int least;

        void find(Told told, Green green, int n) {
            horses = told.horses;
            pieces = n;
            least = MORE_THAN_ANY;
            Arrays.fill(loads, 0);
            for (int piece = 0; piece < n; piece++) {
                burdens[piece] = told.weights[piece] + green.wet[piece];
            }
            place(0, 0);
        }

        /* Lowest HORSES are tried first and only what is less is taken, so the lowest of like ones stays. */
        private void place(int piece, int greatest) {
            if (greatest >= least) {
                return;
            }
            if (piece >= pieces) {
                least = greatest;
                System.arraycopy(places, 0, best, 0, pieces);
                return;
            }
            boolean empty = false;
            /* Empty HORSES are alike: behind the first of them nothing better comes. */
            for (int horse = 0; horse < horses && !empty; horse++) {
                empty = loads[horse] == 0;
                loads[horse] += burdens[piece];
                places[piece] = horse;
                place(piece + 1, Math.max(greatest, loads[horse]));
                loads[horse] -= burdens[piece];
            }
        }
    }

    /** A RANKING. */
    private static final class Ranking {
        private final int[] places = new int[MOST_HORSES];
        private int horses;
        final int[] best = new int[MOST_HORSES];
        int least;

        void find(int[][] beaten, int n) {
            horses = n;
            least = MORE_THAN_ANY;
            place(beaten, 0, 0, 0);
        }

        /* Lowest HORSES are tried first and only what is less is taken, so the lowest of like ones stays. */
        private void place(int[][] beaten, int i, int placed, int upsets) {
            if (upsets >= least) {
                return;
            }
            if (i >= horses) {
                least = upsets;
                System.arraycopy(places, 0, best, 0, horses);
                return;
            }
            for (int horse = 0; horse < horses; horse++) {
                if ((placed >> horse & 1) == 0) {
                    places[i] = horse;
                    place(beaten, i + 1, placed | 1 << horse, upsets + upsetsOf(beaten[horse], i));
                }
            }
        }

        /** How often a HORSE beat those that stand ahead of it. */
        private int upsetsOf(int[] beaten, int ahead) {
            int upsets = 0;
            for (int i = 0; i < ahead; i++) {
                upsets += beaten[places[i]];
            }
            return upsets;
        }
    }

    /** HEATS. */
    private static final class Heats {
        private final int[] sets = new int[MOST_SETS];
        private final int[] met = new int[MOST_SETS];
        final int[] best = new int[MOST_SETS];
        int count;

        void find(int horses, int size) {
            int all = 0;
            for (int set = 1; set < 1 << horses && all < MOST_SETS; set++) {
                if (Integer.bitCount(set) == size) {
                    sets[all] = set;
                    met[all] = pairsIn(set);
                    all++;
                }
            }
            int due = pairsIn((1 << horses) - 1);
            int chosen = (1 << all) - 1;
            /* The lowest set is the highest bit: of as many sets the greatest choice has the lowest ones. */
            for (int choice = chosen - 1; choice > 0; choice--) {
                if (Integer.bitCount(choice) < Integer.bitCount(chosen) && pairsMet(choice, all) == due) {
                    chosen = choice;
                }
            }
            list(chosen, all);
        }

        private void list(int chosen, int all) {
            count = 0;
            for (int i = 0; i < all; i++) {
                if ((chosen >> (all - 1 - i) & 1) == 1) {
                    best[count] = sets[i];
                    count++;
                }
            }
        }

        private int pairsMet(int choice, int all) {
            int pairs = 0;
            for (int i = 0; i < all; i++) {
                if ((choice >> (all - 1 - i) & 1) == 1) {
                    pairs |= met[i];
                }
            }
            return pairs;
        }

        /** The pairs (bits) that meet in a set of HORSES. */
        private static int pairsIn(int set) {
            int pairs = 0;
            for (int a = 0; a < MOST_HORSES; a++) {
                for (int b = a + 1; b < MOST_HORSES; b++) {
                    if ((set >> a & 1) == 1 && (set >> b & 1) == 1) {
                        pairs |= 1 << a * MOST_HORSES + b;
                    }
                }
            }
            return pairs;
        }
    }
}
