import java.util.NoSuchElementException;

/** A state of towns that was split by a comma: the document's promises 1 to 40. */
public final class CommaState {
    public static final int NONE = -1;

    private static final int TAPE_BYTES = 600;
    private static final int LAW_BYTES = 150;
    private static final int WORK_BYTES = 150;
    private static final int BOOK_BYTES = 60;
    private static final int MAX_CLAUSES = 60;
    private static final int MAX_TOWNS = 8;
    private static final int MAX_ROADS = 12;
    private static final int MAX_OPEN = 6;
    private static final int MAX_VOTERS = 999;
    private static final int MAX_MOVE = 99;
    private static final int MAX_AGAIN = 30;
    private static final int MAX_BEGUN = 200;
    private static final int LAST_YEAR = 400;
    private static final int MAX_SWAY = 99;
    private static final int MAX_AHEAD = 99;
    private static final int MAX_DRIFT = 40;
    private static final int NO_DRIFT = -41;
    private static final int MAX_WORKS = 16;
    private static final int MAX_IMAGES = 3;
    private static final int TOO_MANY_WORKS = -20;
    private static final int ODDS_VOTERS = 9;
    private static final int NEITHER = 2;

    private final Tape tape = new Tape();
    private Land land = new Land();
    private Land spareLand = new Land();
    private final World world = new World();
    private final World spareWorld = new World();
    private Law ruling = new Law();
    private Law spareLaw = new Law();
    private Book lines = new Book();
    private Book spareBook = new Book();
    private final Deeds deeds = new Deeds();
    private final Past past = new Past();
    private final Polls polls = new Polls();
    private final Fate fate = new Fate();
    private int stepsRefused;
    private int noSuchCalls;
    private int badCalls;

    public CommaState() {
    }

    // ---- texts ----

    public int feed(int a, int b, int c, int d, int e) {
        if (tape.length + 20 > TAPE_BYTES) {
            return NONE;
        }
        tape.put(a);
        tape.put(b);
        tape.put(c);
        tape.put(d);
        tape.put(e);
        return tape.length;
    }

    public int state(int n) throws IllegalArgumentException {
        needText(n, TAPE_BYTES);
        tape.open(n);
        spareWorld.clear();
        spareLand.read(tape, spareWorld);
        if (!tape.sound()) {
            return tape.answer();
        }
        Land old = land;
        land = spareLand;
        spareLand = old;
        world.copy(spareWorld);
        ruling.setPlain();
        lines.clear();
        past.clear();
        stepsRefused = 0;
        return land.towns;
    }

    public int law(int n) throws IllegalArgumentException {
        needText(n, LAW_BYTES);
        tape.open(n);
        spareLaw.read(tape);
        if (!tape.sound()) {
            return tape.answer();
        }
        Law old = ruling;
        ruling = spareLaw;
        spareLaw = old;
        return 1;
    }

    public int work(int n) throws IllegalArgumentException {
        needText(n, WORK_BYTES);
        if (past.works >= MAX_WORKS) {
            tape.drop();
            return TOO_MANY_WORKS;
        }
        tape.open(n);
        deeds.read(tape, land.towns);
        if (!tape.sound()) {
            return tape.answer();
        }
        past.keepWork(world);
        deeds.forget();
        deeds.enact(world, land, ruling, 0, deeds.size, 0);
        stepsRefused = deeds.refused;
        return deeds.done;
    }

    public int book(int n) throws IllegalArgumentException {
        needText(n, BOOK_BYTES);
        tape.open(n);
        spareBook.read(tape, land.towns);
        if (!tape.sound()) {
            return tape.answer();
        }
        Book old = lines;
        lines = spareBook;
        spareBook = old;
        return lines.size;
    }

    public int fault() {
        return tape.faultPlace;
    }

    public int undo() {
        if (past.works < 1) {
            return NONE;
        }
        past.takeWork(world);
        stepsRefused = 0;
        return past.works;
    }

    // ---- what is ----

    public int told(int what) throws IllegalArgumentException {
        need(within(what, 0, 10));
        switch (what) {
            case 0: return land.towns;
            case 1: return land.roads;
            case 2: return world.year;
            case 3: return world.votes;
            case 4: return world.party;
            case 5: return world.comma;
            case 6: return world.allVoters(land);
            case 7: return world.allBreathe(land);
            case 8: return lines.size;
            case 9: return stepsRefused;
            default: return land.allSeats();
        }
    }

    public int town(int town, int what) throws NoSuchElementException, IllegalArgumentException {
        needTown(town);
        need(within(what, 0, 6));
        switch (what) {
            case 0: return world.voters[town];
            case 1: return world.breathe[town];
            case 2: return land.chairs[town];
            case 3: return world.side(town);
            case 4: return land.near[town];
            case 5: return world.parted(town);
            default: return world.sway(town, land, ruling);
        }
    }

    public int road(int road, int what) throws NoSuchElementException, IllegalArgumentException {
        needSuch(within(road, 0, land.roads - 1));
        need(within(what, 0, 1));
        return what == 0 ? land.from[road] : land.to[road];
    }

    public int seats(int party) throws IllegalArgumentException {
        need(within(party, 0, 2));
        return world.seatsOf(party, land);
    }

    public int would(int voters, int breathe, int seats, int comma, int school, int near,
            int votes, int in, int town, int year) throws IllegalArgumentException {
        need(within(voters, 0, MAX_VOTERS) && within(breathe, 0, MAX_VOTERS));
        need(within(seats, 1, 9) && within(comma, 0, 1) && within(school, 0, 1));
        need(within(near, 0, 7) && within(votes, 0, 999) && within(in, 0, 1));
        need(within(town, 0, 7) && within(year, 0, LAST_YEAR));
        ruling.tellTown(voters, breathe, seats, school, near, town);
        ruling.tellAll(comma, votes, in, year);
        return ruling.outcome();
    }

    public boolean can(int from, int to, int n) throws NoSuchElementException {
        needTown(from);
        needTown(to);
        return world.movable(from, to, n);
    }

    public int most(int from, int to) throws NoSuchElementException {
        needTown(from);
        needTown(to);
        return world.mostMovable(from, to);
    }

    public int sides(int party) throws IllegalArgumentException {
        need(within(party, 0, 2));
        return world.sideBits(party, land);
    }

    public int margin() {
        return world.seatsOf(0, land) - world.seatsOf(1, land);
    }

    public int closest(int what) throws IllegalArgumentException {
        need(within(what, 0, 1));
        int town = polls.nearestToHalf(world, land);
        return town == NONE || what == 0 ? town : world.apart(town);
    }

    public int safest(int what) throws IllegalArgumentException {
        need(within(what, 0, 1));
        int town = polls.farthestFromHalf(world, land);
        return town == NONE || what == 0 ? town : world.apart(town);
    }

    public int lightest(int what) throws IllegalArgumentException {
        need(within(what, 0, 1));
        int town = polls.fewestBySeat(world, land);
        return town == NONE || what == 0 ? town : polls.votersBySeat(town, world, land);
    }

    // ---- what will be ----

    public int ahead(int n, int what) throws IllegalArgumentException {
        need(within(n, 0, MAX_AHEAD) && within(what, 0, 2));
        fate.holdVotes(n, world, land, ruling);
        if (what == 0) {
            return fate.later.allBreathe(land);
        }
        return what == 1 ? fate.later.party : fate.later.seatsOf(0, land);
    }

    public int till(int party) throws IllegalArgumentException {
        need(within(party, 0, 1));
        return fate.votesTill(party, world, land, ruling);
    }

    public int term(int seed, int q, int days, int what) throws IllegalArgumentException {
        need(within(q, 0, 16) && within(days, 1, 96) && within(what, 0, 3));
        fate.serveTerm(seed, q, days, world, land, ruling);
        switch (what) {
            case 0: return fate.later.allBreathe(land);
            case 1: return fate.later.party;
            case 2: return fate.votesHeld;
            default: return fate.changes;
        }
    }

    public int span(int seed, int many, int q, int days, int what) throws IllegalArgumentException {
        need(within(many, 1, 20) && within(q, 0, 16));
        need(within(days, 1, 96) && within(what, 0, 2));
        int fewest = 0;
        int greatest = 0;
        int firstIn = 0;
        for (int i = 0; i < many; i++) {
            fate.serveTerm(seed + i, q, days, world, land, ruling);
            int breathing = fate.later.allBreathe(land);
            fewest = i == 0 ? breathing : Math.min(fewest, breathing);
            greatest = Math.max(greatest, breathing);
            firstIn += fate.later.party == 0 ? 1 : 0;
        }
        if (what == 0) {
            return fewest;
        }
        return what == 1 ? greatest : firstIn;
    }

    // ---- reckonings ----

    public int turn(int party, int what) throws IllegalArgumentException {
        need(within(party, 0, 1) && within(what, 0, 1));
        int set = polls.cheapestTurn(party, world, land);
        return set == NONE || what == 1 ? set : polls.turnCost(set, party, world, land);
    }

    public int swing(int town) throws NoSuchElementException {
        needTown(town);
        return polls.swingSets(town, land);
    }

    public int given(int town, int n) throws NoSuchElementException, IllegalArgumentException {
        needTown(town);
        need(within(n, 0, 99));
        polls.giveSeats(n, world, land);
        return polls.gifts[town];
    }

    public int league(int towns) throws IllegalArgumentException {
        need(land.knows(towns));
        return land.fewestTogether(towns);
    }

    public int parts() {
        return land.pieces(NONE);
    }

    public int bridges() {
        return land.cuts();
    }

    public int drift(int what) throws IllegalArgumentException {
        need(within(what, 0, 2));
        lines.measure(world, land);
        if (what == 0) {
            return lines.fitting;
        }
        return what == 1 ? lines.least : lines.greatest;
    }

    public int look(int what) throws IllegalArgumentException {
        need(within(what, 0, 1));
        lines.measure(world, land);
        int town = lines.nextTown(land);
        return town == NONE || what == 0 ? town : lines.worst(town);
    }

    public int commas(int w, int k, int g) throws IllegalArgumentException {
        need(within(w, 1, 30) && within(k, 0, 10) && within(g, 1, 9));
        if (k == 0) {
            return 1;
        }
        int free = w - (k + 1) * g;
        return free < 0 ? 0 : (int) Polls.choose(free + k, k);
    }

    public long odds(int town, int q, int part) throws NoSuchElementException, IllegalArgumentException {
        needTown(town);
        need(within(q, 0, 16) && within(part, 0, 1));
        int asked = Math.min(ODDS_VOTERS, world.voters[town]);
        long above = Polls.waysForMost(asked, q);
        long below = Polls.power(16, asked);
        long common = Polls.commonDivisor(above, below);
        long chosen = part == 0 ? above : below;
        return common == 0 ? chosen : chosen / common;
    }

    public int speak(int d, int what) throws IllegalArgumentException {
        need(within(d, 0, 99) && within(what, 0, 2));
        polls.hearBoth(d, world, land);
        if (what == 0) {
            return polls.rests;
        }
        return what == 1 ? polls.firstRest : polls.restSeats;
    }

    public int bread(int town, int towns, int n) throws NoSuchElementException, IllegalArgumentException {
        needTown(town);
        need(land.knows(towns) && within(n, 0, 9999));
        if ((towns >> town & 1) == 0) {
            return 0;
        }
        return Math.min(world.voters[town], polls.breadBound(towns, n, world, land));
    }

    // ---- images and counts ----

    public int image() {
        if (past.images >= MAX_IMAGES) {
            return NONE;
        }
        past.keepImage(world);
        return past.images;
    }

    public int restore() {
        if (past.images < 1) {
            return NONE;
        }
        past.takeImage(world);
        stepsRefused = 0;
        return past.images;
    }

    public int status(int what) {
        if (what == 0) {
            return noSuchCalls;
        }
        return what == 1 ? badCalls : NONE;
    }

    public int count(int what) {
        switch (what) {
            case 0: return past.images;
            case 1: return tape.length;
            case 2: return past.works;
            default: return NONE;
        }
    }

    // ---- refusals ----

    private static boolean within(int value, int least, int greatest) {
        return value >= least && value <= greatest;
    }

    private void need(boolean fine) {
        if (!fine) {
            badCalls++;
            throw new IllegalArgumentException("no such argument");
        }
    }

    private void needSuch(boolean there) {
        if (!there) {
            noSuchCalls++;
            throw new NoSuchElementException("no such town or road");
        }
    }

    private void needTown(int town) {
        needSuch(within(town, 0, land.towns - 1));
    }

    private void needText(int n, int limit) {
        need(within(n, 0, Math.min(limit, tape.length)));
    }

    /** The bytes fed, and the text that is read from them, one token ahead. */
    private static final class Tape {
        static final int END = 0;
        static final int NUMBER = 1;
        static final int WORD = 2;
        static final int SIGN = 3;
        // far above each number's bound, far below where a further digit would wrap
        static final int HUGE = 100000;

        final int[] bytes = new int[TAPE_BYTES];
        int length;
        int end;
        int pos;
        int start;
        int kind;
        int value;
        int faultKind;
        int faultPlace = NONE;

        void put(int number) {
            for (int shift = 24; shift >= 0 && length < TAPE_BYTES; shift -= 8) {
                bytes[length] = number >>> shift & 255;
                length++;
            }
        }

        void drop() {
            length = 0;
            faultKind = 0;
            faultPlace = NONE;
        }

        /** The bytes stay behind the emptied tape until the next feed, so they can be read. */
        void open(int n) {
            end = Math.min(n, TAPE_BYTES);
            drop();
            pos = 0;
            advance();
        }

        boolean sound() {
            return faultKind == 0;
        }

        int answer() {
            return faultKind - 10;
        }

        /** Only the first fault counts; behind it nothing moves, so a reader may run on to its end. */
        void fail(int kindOfFault) {
            if (faultKind == 0) {
                faultKind = kindOfFault;
                faultPlace = start;
            }
        }

        /** Passes the token that stands here: the next one, behind blanks, stands here then. */
        void advance() {
            if (faultKind != 0) {
                return;
            }
            while (pos < end && bytes[pos] == ' ') {
                pos++;
            }
            start = pos;
            value = 0;
            while (pos < end && bytes[pos] >= '0' && bytes[pos] <= '9') {
                kind = NUMBER;
                value = Math.min(HUGE, value * 10 + bytes[pos] - '0');
                pos++;
            }
            if (pos > start) {
                return;
            }
            while (pos < end && bytes[pos] >= 'a' && bytes[pos] <= 'z') {
                kind = WORD;
                pos++;
            }
            if (pos > start) {
                return;
            }
            kind = END;
            if (pos < end) {
                kind = SIGN;
                value = bytes[pos];
                pos++;
            }
        }

        boolean atSign(int sign) {
            return kind == SIGN && value == sign;
        }

        void sign(int sign) {
            if (atSign(sign)) {
                advance();
            } else {
                fail(1);
            }
        }

        /** The number that stands here, not passed yet; 0 with a fault. */
        int numberHere(int least, int greatest) {
            if (kind != NUMBER) {
                fail(1);
            } else if (value < least || value > greatest) {
                fail(2);
            }
            return faultKind == 0 ? value : 0;
        }

        int number(int least, int greatest) {
            int found = numberHere(least, greatest);
            advance();
            return found;
        }

        /** Which of the words (each with a blank behind it) stands here; NONE of them is a fault. */
        int wordHere(String words) {
            int index = 0;
            int at = start;
            boolean same = kind == WORD;
            for (int i = 0; i < words.length(); i++) {
                char letter = words.charAt(i);
                if (letter != ' ') {
                    same = same && at < pos && bytes[at] == letter;
                    at++;
                } else if (same && at == pos) {
                    return index;
                } else {
                    index++;
                    at = start;
                    same = kind == WORD;
                }
            }
            fail(1);
            return NONE;
        }
    }

    /** What no WORK changes: how many towns, their seats, and the roads. */
    private static final class Land {
        static final String WORDS = "town road comma ";

        int towns;
        int roads;
        final int[] chairs = new int[MAX_TOWNS];
        final int[] near = new int[MAX_TOWNS];
        final int[] from = new int[MAX_ROADS];
        final int[] to = new int[MAX_ROADS];

        void read(Tape tape, World world) {
            towns = 0;
            roads = 0;
            for (int clause = 0; clause <= MAX_CLAUSES && tape.sound() && tape.kind != Tape.END; clause++) {
                readClause(tape, world, clause);
            }
        }

        void readClause(Tape tape, World world, int clause) {
            int word = tape.wordHere(WORDS);
            boolean townTooMany = word == 0 && towns >= MAX_TOWNS;
            boolean roadTooMany = word == 1 && roads >= MAX_ROADS;
            if (clause >= MAX_CLAUSES || townTooMany || roadTooMany) {
                tape.fail(3);
            }
            if (!tape.sound()) {
                return;
            }
            tape.advance();
            if (word == 0) {
                readTown(tape, world);
            } else if (word == 1) {
                readRoad(tape);
            } else {
                world.comma = tape.number(0, 1);
            }
            tape.sign(';');
        }

        void readTown(Tape tape, World world) {
            int voters = tape.number(1, 99);
            int breathe = tape.number(0, voters);
            int seats = tape.number(1, 9);
            if (tape.sound() && towns < MAX_TOWNS) {
                world.voters[towns] = voters;
                world.breathe[towns] = breathe;
                chairs[towns] = seats;
                near[towns] = 0;
                towns++;
            }
        }

        void readRoad(Tape tape) {
            int a = tape.number(0, towns - 1);
            int c = tape.numberHere(0, towns - 1);
            if (a == c || (near[a] >> c & 1) == 1) {
                tape.fail(2);
            }
            if (tape.sound() && roads < MAX_ROADS) {
                from[roads] = a;
                to[roads] = c;
                near[a] |= 1 << c;
                near[c] |= 1 << a;
                roads++;
                tape.advance();
            }
        }

        int allSeats() {
            return seatsIn(everyTown());
        }

        int seatsIn(int set) {
            int sum = 0;
            for (int town = 0; town < towns; town++) {
                sum += (set >> town & 1) == 1 ? chairs[town] : 0;
            }
            return sum;
        }

        int everyTown() {
            return (1 << towns) - 1;
        }

        boolean knows(int set) {
            return set >= 0 && set <= everyTown();
        }

        /** The towns of a set that a town of it reaches by roads inside it, but for one road. */
        int reached(int town, int set, int without) {
            int found = 1 << town;
            int before = 0;
            for (int pass = 0; pass < MAX_TOWNS && found != before; pass++) {
                before = found;
                for (int road = 0; road < roads; road++) {
                    int ends = 1 << from[road] | 1 << to[road];
                    if (road != without && (ends & set) == ends && (ends & found) != 0) {
                        found |= ends;
                    }
                }
            }
            return found;
        }

        int pieces(int without) {
            int left = everyTown();
            int found = 0;
            for (int town = 0; town < towns; town++) {
                if ((left >> town & 1) == 1) {
                    found++;
                    left &= ~reached(town, everyTown(), without);
                }
            }
            return found;
        }

        int cuts() {
            int whole = pieces(NONE);
            int bits = 0;
            for (int road = 0; road < roads; road++) {
                bits |= pieces(road) > whole ? 1 << road : 0;
            }
            return bits;
        }

        int fewestTogether(int wanted) {
            if (wanted == 0) {
                return 0;
            }
            int best = NONE;
            int first = Integer.bitCount((wanted & -wanted) - 1);
            for (int set = wanted; set <= everyTown(); set++) {
                boolean holds = (set & wanted) == wanted;
                boolean fewer = best == NONE || Integer.bitCount(set) < Integer.bitCount(best);
                if (holds && fewer && reached(first, set, NONE) == set) {
                    best = set;
                }
            }
            return best;
        }
    }

    /** What WORK changes. */
    private static final class World {
        static final int ROW = 2 * MAX_TOWNS + 5;

        final int[] voters = new int[MAX_TOWNS];
        final int[] breathe = new int[MAX_TOWNS];
        final int[] sways = new int[MAX_TOWNS];
        int schools;
        int comma = 1;
        int votes;
        int party = 1;
        int year;

        void clear() {
            schools = 0;
            comma = 1;
            votes = 0;
            party = 1;
            year = 0;
        }

        void copy(World other) {
            for (int town = 0; town < MAX_TOWNS; town++) {
                voters[town] = other.voters[town];
                breathe[town] = other.breathe[town];
            }
            schools = other.schools;
            comma = other.comma;
            votes = other.votes;
            party = other.party;
            year = other.year;
        }

        void save(int[] rows, int at) {
            if (at < 0 || at > rows.length - ROW) {
                return;
            }
            for (int town = 0; town < MAX_TOWNS; town++) {
                rows[at + town] = voters[town];
                rows[at + MAX_TOWNS + town] = breathe[town];
            }
            int rest = at + 2 * MAX_TOWNS;
            rows[rest] = schools;
            rows[rest + 1] = comma;
            rows[rest + 2] = votes;
            rows[rest + 3] = party;
            rows[rest + 4] = year;
        }

        void load(int[] rows, int at) {
            if (at < 0 || at > rows.length - ROW) {
                return;
            }
            for (int town = 0; town < MAX_TOWNS; town++) {
                voters[town] = rows[at + town];
                breathe[town] = rows[at + MAX_TOWNS + town];
            }
            int rest = at + 2 * MAX_TOWNS;
            schools = rows[rest];
            comma = rows[rest + 1];
            votes = rows[rest + 2];
            party = rows[rest + 3];
            year = rows[rest + 4];
        }

        static int sideBy(int breathing, int all) {
            if (2 * breathing > all) {
                return 0;
            }
            return 2 * breathing < all ? 1 : NEITHER;
        }

        int side(int town) {
            return sideBy(breathe[town], voters[town]);
        }

        /** Who breathes there, were there so many more: 0 at least, all voters at most. */
        int shifted(int town, int more) {
            return Math.max(0, Math.min(voters[town], breathe[town] + more));
        }

        int apart(int town) {
            return Math.abs(2 * breathe[town] - voters[town]);
        }

        int parted(int town) {
            return schools >> town & 1;
        }

        int sideBits(int of, Land land) {
            int bits = 0;
            for (int town = 0; town < land.towns; town++) {
                bits |= side(town) == of ? 1 << town : 0;
            }
            return bits;
        }

        int seatsOf(int of, Land land) {
            return land.seatsIn(sideBits(of, land));
        }

        int allVoters(Land land) {
            int sum = 0;
            for (int town = 0; town < land.towns; town++) {
                sum += voters[town];
            }
            return sum;
        }

        int allBreathe(Land land) {
            int sum = 0;
            for (int town = 0; town < land.towns; town++) {
                sum += breathe[town];
            }
            return sum;
        }

        int sway(int town, Land land, Law law) {
            return swayBy(sideBits(0, land), town, land, law);
        }

        int swayBy(int breathing, int town, Land land, Law law) {
            int near = Integer.bitCount(land.near[town] & breathing);
            law.tellTown(voters[town], breathe[town], land.chairs[town], parted(town), near, town);
            law.tellAll(comma, votes, party, year);
            return law.outcome();
        }

        void holdVote(Land land, Law law) {
            int breathing = sideBits(0, land);
            for (int town = 0; town < land.towns; town++) {
                sways[town] = swayBy(breathing, town, land, law);
            }
            for (int town = 0; town < land.towns; town++) {
                breathe[town] = shifted(town, sways[town]);
            }
            votes++;
            int lead = seatsOf(0, land) - seatsOf(1, land);
            if (lead != 0) {
                party = lead > 0 ? 0 : 1;
            }
        }

        int mostMovable(int a, int c) {
            if (a == c || a < 0 || a >= MAX_TOWNS || c < 0 || c >= MAX_TOWNS) {
                return 0;
            }
            int leaving = Math.min(breathe[a], voters[a] - 1);
            int coming = Math.min(MAX_MOVE, MAX_VOTERS - voters[c]);
            return Math.max(0, Math.min(leaving, coming));
        }

        boolean movable(int a, int c, int n) {
            return n >= 1 && n <= mostMovable(a, c);
        }

        boolean move(int a, int c, int n) {
            if (!movable(a, c, n)) {
                return false;
            }
            voters[a] -= n;
            breathe[a] -= n;
            voters[c] += n;
            breathe[c] += n;
            return true;
        }

        boolean nextYear() {
            if (year >= LAST_YEAR) {
                return false;
            }
            year++;
            return true;
        }

        void flip() {
            comma = 1 - comma;
        }
    }

    /** How a town is swayed, kept with each sign behind what it joins. */
    private static final class Law {
        static final String WORDS = "voters breathe seats comma school near votes in town year least most ";
        static final int FACTS = 10;
        static final int LEAST = 10;
        // a code below FACT is a number, one below JOIN a fact, others join two values
        static final int FACT = 1000;
        static final int JOIN = 2000;
        // six open brackets hold three values each, the outermost three more
        static final int STACK = 32;

        final int[] code = new int[LAW_BYTES];
        final int[] facts = new int[FACTS];
        final int[] stack = new int[STACK];
        int size;

        Law() {
            setPlain();
        }

        void setPlain() {
            size = 0;
            emit(FACT + 3);
            emit(2);
            emit(JOIN + '*');
            emit(1);
            emit(JOIN + '-');
        }

        void emit(int one) {
            if (size < LAW_BYTES) {
                code[size] = one;
                size++;
            }
        }

        void read(Tape tape) {
            size = 0;
            readSum(tape, 0);
            if (tape.kind != Tape.END) {
                tape.fail(1);
            }
        }

        void readSum(Tape tape, int open) {
            readProduct(tape, open);
            for (int i = 0; i < LAW_BYTES && tape.sound(); i++) {
                if (!tape.atSign('+') && !tape.atSign('-')) {
                    return;
                }
                int sign = tape.value;
                tape.advance();
                readProduct(tape, open);
                emit(JOIN + sign);
            }
        }

        void readProduct(Tape tape, int open) {
            readUnit(tape, open);
            for (int i = 0; i < LAW_BYTES && tape.sound(); i++) {
                if (!tape.atSign('*') && !tape.atSign('/') && !tape.atSign('%')) {
                    return;
                }
                int sign = tape.value;
                tape.advance();
                readUnit(tape, open);
                emit(JOIN + sign);
            }
        }

        void readUnit(Tape tape, int open) {
            int word = tape.kind == Tape.WORD ? tape.wordHere(WORDS) : NONE;
            boolean bracket = tape.atSign('(');
            if ((bracket || word >= FACTS) && open >= MAX_OPEN) {
                tape.fail(3);
            }
            if (!tape.sound()) {
                return;
            }
            if (tape.kind == Tape.NUMBER) {
                emit(tape.number(0, FACT - 1));
                return;
            }
            if (!bracket && word == NONE) {
                tape.fail(1);
                return;
            }
            tape.advance();
            if (bracket) {
                readSum(tape, open + 1);
                tape.sign(')');
            } else if (word < FACTS) {
                emit(FACT + word);
            } else {
                tape.sign('[');
                readSum(tape, open + 1);
                tape.sign(',');
                readSum(tape, open + 1);
                tape.sign(']');
                emit(JOIN + (word == LEAST ? '<' : '>'));
            }
        }

        void tellTown(int voters, int breathe, int seats, int school, int near, int town) {
            facts[0] = voters;
            facts[1] = breathe;
            facts[2] = seats;
            facts[4] = school;
            facts[5] = near;
            facts[8] = town;
        }

        void tellAll(int comma, int votes, int party, int year) {
            facts[3] = comma;
            facts[6] = votes;
            facts[7] = party;
            facts[9] = year;
        }

        /** SWAY by the facts told last. */
        int outcome() {
            int top = 0;
            for (int i = 0; i < size; i++) {
                int one = code[i];
                if (one >= JOIN) {
                    if (top >= 2) {
                        top--;
                        stack[top - 1] = join(one - JOIN, stack[top - 1], stack[top]);
                    }
                } else if (top < STACK) {
                    int which = one - FACT;
                    stack[top] = which >= 0 && which < FACTS ? facts[which] : one;
                    top++;
                }
            }
            return Math.max(-MAX_SWAY, Math.min(MAX_SWAY, stack[0]));
        }

        static int join(int sign, int left, int right) {
            switch (sign) {
                case '+': return left + right;
                case '-': return left - right;
                case '*': return left * right;
                case '/': return right == 0 ? 0 : left / right;
                case '%': return right == 0 ? 0 : left % right;
                case '<': return Math.min(left, right);
                default: return Math.max(left, right);
            }
        }
    }

    /** WORK: its steps in the order of the text, an again ahead of what it holds. */
    private static final class Deeds {
        static final String WORDS = "move school fly vote year again ";
        static final int AGAIN = 5;

        // the shortest step, fly, takes four bytes
        static final int MAX_STEPS = WORK_BYTES / 4 + 1;

        final int[] step = new int[MAX_STEPS];
        // of a move A, C and N; of a school T; of an again N and the step behind its last one
        final int[] first = new int[MAX_STEPS];
        final int[] second = new int[MAX_STEPS];
        final int[] third = new int[MAX_STEPS];
        int size;
        int begun;
        int done;
        int refused;

        void read(Tape tape, int towns) {
            size = 0;
            for (int i = 0; i < WORK_BYTES && tape.sound() && tape.kind != Tape.END; i++) {
                readStep(tape, towns, 0);
            }
        }

        void readStep(Tape tape, int towns, int open) {
            int word = tape.wordHere(WORDS);
            if (word == AGAIN && open >= MAX_OPEN) {
                tape.fail(3);
            }
            if (!tape.sound() || size >= MAX_STEPS) {
                return;
            }
            tape.advance();
            int at = size;
            step[at] = word;
            size++;
            if (word == 0) {
                first[at] = tape.number(0, towns - 1);
                second[at] = tape.number(0, towns - 1);
                third[at] = tape.number(1, MAX_MOVE);
            } else if (word == 1) {
                first[at] = tape.number(0, towns - 1);
            } else if (word == AGAIN) {
                first[at] = tape.number(0, MAX_AGAIN);
                readHeld(tape, towns, open + 1);
                second[at] = size;
            }
            tape.sign(';');
        }

        void readHeld(Tape tape, int towns, int open) {
            tape.sign('[');
            for (int i = 0; i < WORK_BYTES && tape.sound() && !tape.atSign(']'); i++) {
                readStep(tape, towns, open);
            }
            tape.sign(']');
        }

        void forget() {
            begun = 0;
            done = 0;
            refused = 0;
        }

        void enact(World world, Land land, Law law, int from, int behind, int open) {
            int at = from;
            for (int i = 0; i < MAX_STEPS && at < behind && at < MAX_STEPS && begun < MAX_BEGUN; i++) {
                begun++;
                if (step[at] != AGAIN) {
                    boolean could = enactStep(world, land, law, at);
                    done += could ? 1 : 0;
                    refused += could ? 0 : 1;
                    at++;
                } else {
                    for (int time = 0; time < first[at] && open < MAX_OPEN; time++) {
                        enact(world, land, law, at + 1, second[at], open + 1);
                    }
                    at = Math.max(at + 1, second[at]);
                }
            }
        }

        boolean enactStep(World world, Land land, Law law, int at) {
            switch (step[at]) {
                case 0:
                    return world.move(first[at], second[at], third[at]);
                case 1:
                    world.schools ^= 1 << first[at];
                    return true;
                case 2:
                    world.flip();
                    return true;
                case 3:
                    world.holdVote(land, law);
                    return true;
                default:
                    return world.nextYear();
            }
        }
    }

    /** Who won where, and what d of DRIFT that leaves. */
    private static final class Book {
        static final int SIDES = 3;

        final int[] told = new int[MAX_TOWNS];
        // by town and side: how many fitting d would bring it there
        final int[] left = new int[MAX_TOWNS * SIDES];
        int size;
        int listed;
        int fitting;
        int least;
        int greatest;

        void clear() {
            size = 0;
            listed = 0;
        }

        void read(Tape tape, int towns) {
            clear();
            for (int i = 0; i < BOOK_BYTES && tape.sound() && tape.kind != Tape.END; i++) {
                readLine(tape, towns);
            }
        }

        void readLine(Tape tape, int towns) {
            int town = tape.numberHere(0, towns - 1);
            if (holds(town)) {
                tape.fail(2);
            }
            tape.advance();
            told[town] = tape.number(0, 2);
            listed |= 1 << town;
            size++;
            tape.sign(';');
        }

        boolean holds(int town) {
            return (listed >> town & 1) == 1;
        }

        boolean fits(int d, World world, Land land) {
            for (int town = 0; town < land.towns; town++) {
                if (holds(town) && sideThen(town, d, world) != told[town]) {
                    return false;
                }
            }
            return true;
        }

        int sideThen(int town, int d, World world) {
            return World.sideBy(world.shifted(town, d), world.voters[town]);
        }

        void measure(World world, Land land) {
            fitting = 0;
            least = NO_DRIFT;
            greatest = NO_DRIFT;
            for (int i = 0; i < MAX_TOWNS * SIDES; i++) {
                left[i] = 0;
            }
            for (int d = -MAX_DRIFT; d <= MAX_DRIFT; d++) {
                if (fits(d, world, land)) {
                    least = fitting == 0 ? d : least;
                    greatest = d;
                    fitting++;
                    for (int town = 0; town < land.towns; town++) {
                        left[town * SIDES + sideThen(town, d, world)]++;
                    }
                }
            }
        }

        int worst(int town) {
            int at = town * SIDES;
            return Math.max(left[at], Math.max(left[at + 1], left[at + 2]));
        }

        int nextTown(Land land) {
            int best = NONE;
            for (int town = 0; town < land.towns; town++) {
                if (!holds(town) && (best == NONE || worst(town) < worst(best))) {
                    best = town;
                }
            }
            return best;
        }
    }

    /** The worlds ahead of each WORK, and the images with theirs. */
    private static final class Past {
        static final int WORKS = MAX_WORKS * World.ROW;
        // how many works an image has, its world, its works
        static final int IMAGE = 1 + World.ROW + WORKS;

        final int[] workRows = new int[WORKS];
        final int[] imageRows = new int[MAX_IMAGES * IMAGE];
        int works;
        int images;

        void clear() {
            works = 0;
            images = 0;
        }

        void keepWork(World world) {
            if (works < MAX_WORKS) {
                world.save(workRows, works * World.ROW);
                works++;
            }
        }

        void takeWork(World world) {
            if (works > 0) {
                works--;
                world.load(workRows, works * World.ROW);
            }
        }

        void keepImage(World world) {
            if (images >= MAX_IMAGES) {
                return;
            }
            int at = images * IMAGE;
            imageRows[at] = works;
            world.save(imageRows, at + 1);
            System.arraycopy(workRows, 0, imageRows, at + 1 + World.ROW, WORKS);
            images++;
        }

        void takeImage(World world) {
            if (images < 1) {
                return;
            }
            images--;
            int at = images * IMAGE;
            works = imageRows[at];
            world.load(imageRows, at + 1);
            System.arraycopy(imageRows, at + 1 + World.ROW, workRows, 0, WORKS);
        }
    }

    /** What would be, tried on a world of its own. */
    private static final class Fate {
        final World later = new World();
        int seedNow;
        int votesHeld;
        int changes;

        void holdVotes(int n, World now, Land land, Law law) {
            later.copy(now);
            for (int i = 0; i < n; i++) {
                later.holdVote(land, law);
            }
        }

        int votesTill(int party, World now, Land land, Law law) {
            later.copy(now);
            for (int held = 0; held <= MAX_AHEAD; held++) {
                if (later.party == party) {
                    return held;
                }
                later.holdVote(land, law);
            }
            return NONE;
        }

        int draw(int by) {
            seedNow = seedNow * 1103515245 + 12345;
            int bits = seedNow >>> 16 & 32767;
            return by > 0 ? bits % by : 0;
        }

        void serveTerm(int seed, int q, int days, World now, Land land, Law law) {
            later.copy(now);
            seedNow = seed;
            votesHeld = 0;
            changes = 0;
            for (int day = 1; day <= days && land.towns > 0; day++) {
                liveDay(q, land);
                if (day % 4 == 0) {
                    int before = later.party;
                    later.holdVote(land, law);
                    votesHeld++;
                    changes += later.party == before ? 0 : 1;
                }
            }
        }

        void liveDay(int q, Land land) {
            int town = draw(land.towns);
            int more = draw(7) - 3;
            later.breathe[town] = later.shifted(town, more);
            if (draw(16) < q) {
                later.flip();
            }
        }
    }

    /** Reckonings over towns and sets of towns. */
    private static final class Polls {
        final int[] gifts = new int[MAX_TOWNS];
        // seats of either party, by the town where 0 speaks and that where 1 does
        final int[] paidFirst = new int[MAX_TOWNS * MAX_TOWNS];
        final int[] paidOther = new int[MAX_TOWNS * MAX_TOWNS];
        int rests;
        int firstRest;
        int restSeats;

        int nearestToHalf(World world, Land land) {
            int best = NONE;
            for (int town = 0; town < land.towns; town++) {
                if (best == NONE || world.apart(town) < world.apart(best)) {
                    best = town;
                }
            }
            return best;
        }

        int farthestFromHalf(World world, Land land) {
            int best = NONE;
            for (int town = 0; town < land.towns; town++) {
                if (best == NONE || world.apart(town) > world.apart(best)) {
                    best = town;
                }
            }
            return best;
        }

        int fewestBySeat(World world, Land land) {
            int best = NONE;
            for (int town = 0; town < land.towns; town++) {
                if (best == NONE || world.voters[town] * land.chairs[best] < world.voters[best] * land.chairs[town]) {
                    best = town;
                }
            }
            return best;
        }

        int votersBySeat(int town, World world, Land land) {
            int seats = land.chairs[town];
            return seats < 1 ? 0 : world.voters[town] / seats;
        }

        /** Without towns no set has a seat, so none is found. */
        int cheapestTurn(int party, World world, Land land) {
            int mine = world.sideBits(party, land);
            int others = world.sideBits(1 - party, land);
            int best = NONE;
            int bestCost = 0;
            for (int set = 0; set <= land.everyTown(); set++) {
                boolean wins = land.seatsIn(mine | set) > land.seatsIn(others & ~set);
                if ((set & mine) == 0 && wins) {
                    int cost = turnCost(set, party, world, land);
                    if (best == NONE || cost < bestCost) {
                        best = set;
                        bestCost = cost;
                    }
                }
            }
            return best;
        }

        int turnCost(int set, int party, World world, Land land) {
            int sum = 0;
            for (int town = 0; town < land.towns; town++) {
                if ((set >> town & 1) == 1) {
                    int breathe = world.breathe[town];
                    int voters = world.voters[town];
                    sum += party == 0 ? voters / 2 + 1 - breathe : breathe - (voters - 1) / 2;
                }
            }
            return sum;
        }

        int swingSets(int town, Land land) {
            int all = land.allSeats();
            int found = 0;
            for (int set = 0; set <= land.everyTown(); set++) {
                if ((set >> town & 1) == 0) {
                    int seats = land.seatsIn(set);
                    boolean tips = 2 * seats <= all && 2 * (seats + land.chairs[town]) > all;
                    found += tips ? 1 : 0;
                }
            }
            return found;
        }

        void giveSeats(int n, World world, Land land) {
            for (int town = 0; town < MAX_TOWNS; town++) {
                gifts[town] = 0;
            }
            for (int i = 0; i < n; i++) {
                int best = 0;
                for (int town = 1; town < land.towns; town++) {
                    int here = world.voters[town] * (gifts[best] + 1);
                    int there = world.voters[best] * (gifts[town] + 1);
                    best = here > there ? town : best;
                }
                gifts[best]++;
            }
        }

        void hearBoth(int d, World world, Land land) {
            for (int a = 0; a < land.towns; a++) {
                for (int c = 0; c < land.towns; c++) {
                    paidFirst[a * MAX_TOWNS + c] = paid(0, a, c, d, world, land);
                    paidOther[a * MAX_TOWNS + c] = paid(1, a, c, d, world, land);
                }
            }
            rests = 0;
            firstRest = NONE;
            restSeats = 0;
            for (int a = 0; a < land.towns; a++) {
                for (int c = 0; c < land.towns; c++) {
                    if (isRest(a, c, land)) {
                        noteRest(a, c);
                    }
                }
            }
        }

        void noteRest(int a, int c) {
            if (rests == 0) {
                firstRest = 10 * a + c;
                restSeats = paidFirst[a * MAX_TOWNS + c] + paidOther[a * MAX_TOWNS + c];
            }
            rests++;
        }

        int paid(int party, int a, int c, int d, World world, Land land) {
            int sum = 0;
            for (int town = 0; town < land.towns; town++) {
                int more = (town == a ? d : 0) - (town == c ? d : 0);
                int side = World.sideBy(world.shifted(town, more), world.voters[town]);
                sum += side == party ? land.chairs[town] : 0;
            }
            return sum;
        }

        boolean isRest(int a, int c, Land land) {
            for (int town = 0; town < land.towns; town++) {
                boolean firstGains = paidFirst[town * MAX_TOWNS + c] > paidFirst[a * MAX_TOWNS + c];
                boolean otherGains = paidOther[a * MAX_TOWNS + town] > paidOther[a * MAX_TOWNS + c];
                if (firstGains || otherGains) {
                    return false;
                }
            }
            return true;
        }

        /** Bit by bit from above; no town has as many voters as the greatest bound it comes to, 1023. */
        int breadBound(int set, int n, World world, Land land) {
            int bound = 0;
            for (int more = 512; more > 0; more /= 2) {
                bound += breadGiven(set, bound + more, world, land) <= n ? more : 0;
            }
            return bound;
        }

        int breadGiven(int set, int bound, World world, Land land) {
            int sum = 0;
            for (int town = 0; town < land.towns; town++) {
                sum += (set >> town & 1) == 1 ? Math.min(bound, world.voters[town]) : 0;
            }
            return sum;
        }

        static long choose(int n, int k) {
            long ways = 1;
            for (int i = 1; i <= k; i++) {
                ways = ways * (n - k + i) / i;
            }
            return ways;
        }

        static long power(long base, int times) {
            long product = 1;
            for (int i = 0; i < times; i++) {
                product *= base;
            }
            return product;
        }

        static long waysForMost(int asked, int q) {
            long sum = 0;
            for (int many = asked / 2 + 1; many <= asked; many++) {
                sum += choose(asked, many) * power(q, many) * power(16 - q, asked - many);
            }
            return sum;
        }

        static long commonDivisor(long a, long b) {
            long large = a;
            long small = b;
            for (int i = 0; i < 1000 && small != 0; i++) {
                long rest = large % small;
                large = small;
                small = rest;
            }
            return large;
        }
    }
}
