/**
 * Squares of towns and the roads between them: which roads and squares part them, the districts
 * that no single road parts, and what roads more or fewer would do. ../shared/DOC.md says what
 * each call answers.
 *
 * <p>Sets, of squares and of roads alike, are bit masks. All rows are made by the constructor; no
 * call makes an object.
 */
public final class PartingRoads {
    public static final int NO_SUCH = -1, BAD_VALUE = -2, BAD_TEXT = -3, TOO_MANY = -4, NOT_POSSIBLE = -5, NONE = -6;

    private static final int LEAST_SQUARES = 2;
    private static final int MOST_SQUARES = 16;
    private static final int FIRST_SQUARES = 8;
    private static final int MOST_ROADS = 30;
    private static final int MOST_LENGTH = 99;
    private static final int MOST_CHANGES = 6;
    private static final int SLOTS = 2;
    private static final int MOST_CHARACTERS = 80;

    private static final int CHARACTERS_AT_ONCE = 8;
    private static final int CHARACTER_BITS = 8;
    private static final int CHARACTER_MASK = 255;
    private static final int LEAST_CODE = 33;
    private static final int GREATEST_CODE = 126;

    private static final int NUMBERS_OF_ROAD = 3;
    private static final int PLACE_OF_LENGTH = 2;
    private static final int NO_NUMBER = -1;

    private static final int NO_ERROR = 0;

    private final Town town;
    private final Survey survey;
    private final Pad pad;
    private final History history;
    private final Town[] slots;
    private final boolean[] saved;

    public PartingRoads() {
        town = new Town();
        survey = new Survey(town);
        pad = new Pad();
        history = new History();
        slots = new Town[SLOTS];
        for (int slot = 0; slot < SLOTS; slot++) {
            slots[slot] = new Town();
        }
        saved = new boolean[SLOTS];
    }

    // ---- changes

    public int squares(int many) {
        if (many < LEAST_SQUARES || many > MOST_SQUARES) {
            return BAD_VALUE;
        }
        if (!town.fitsInto(many)) {
            return NOT_POSSIBLE;
        }
        int before = town.squareCount;
        history.record(town);
        town.squareCount = many;
        survey.renew();
        return before;
    }

    public int build(int one, int other, int length) {
        if (!town.hasSquare(one) || !town.hasSquare(other)) {
            return NO_SUCH;
        }
        if (one == other || length < 1 || length > MOST_LENGTH) {
            return BAD_VALUE;
        }
        if (town.roadCount >= MOST_ROADS) {
            return TOO_MANY;
        }
        history.record(town);
        town.addRoad(one, other, length);
        survey.renew();
        return survey.pieces;
    }

    public int lose(int road) {
        if (!town.hasRoad(road)) {
            return NO_SUCH;
        }
        history.record(town);
        town.removeRoad(road);
        survey.renew();
        return survey.pieces;
    }

    public int read() {
        if (pad.parse() != NONE) {
            return BAD_TEXT;
        }
        int error = errorOfParsedRoads();
        if (error != NO_ERROR) {
            return error;
        }
        history.record(town);
        for (int road = 0; road < pad.parsedRoads(); road++) {
            town.addRoad(pad.parsedOne(road), pad.parsedOther(road), pad.parsedLength(road));
        }
        pad.length = 0;
        survey.renew();
        return town.roadCount;
    }

    /** Each error has a round of its own, because it counts for all roads before the next one does. */
    private int errorOfParsedRoads() {
        int many = pad.parsedRoads();
        for (int road = 0; road < many; road++) {
            if (!town.hasSquare(pad.parsedOne(road)) || !town.hasSquare(pad.parsedOther(road))) {
                return NO_SUCH;
            }
        }
        for (int road = 0; road < many; road++) {
            if (pad.parsedOne(road) == pad.parsedOther(road)) {
                return BAD_VALUE;
            }
        }
        return town.roadCount + many > MOST_ROADS ? TOO_MANY : NO_ERROR;
    }

    // ---- what there is

    public int road(int road, int what) {
        if (!town.hasRoad(road)) {
            return NO_SUCH;
        }
        switch (what) {
            case 0:
                return town.lower[road];
            case 1:
                return town.higher[road];
            case 2:
                return town.lengths[road];
            case 3:
                return contains(survey.partingRoads, road) ? 1 : 0;
            case 4:
                return survey.leastRing(road);
            case 5:
                return survey.pairsParted(road);
            default:
                return BAD_VALUE;
        }
    }

    public int square(int square, int what) {
        if (!town.hasSquare(square)) {
            return NO_SUCH;
        }
        switch (what) {
            case 0:
                return Integer.bitCount(town.roadsAt(square));
            case 1:
                return survey.morePiecesWithout(square) > 0 ? 1 : 0;
            case 2:
                return survey.districtOf[square];
            case 3:
                return survey.pieceOf[square];
            case 4:
                return survey.morePiecesWithout(square);
            default:
                return BAD_VALUE;
        }
    }

    public int district(int district, int what) {
        if (district < 0 || district >= survey.districts) {
            return NO_SUCH;
        }
        int members = survey.districtSquares[district];
        switch (what) {
            case 0:
                return members;
            case 1:
                return town.lengthOf(town.roadsWithin(members));
            case 2:
                return survey.partingRoadsOut(members);
            case 3:
                return Integer.bitCount(town.roadsWithin(members)) - Integer.bitCount(members) + 1;
            default:
                return BAD_VALUE;
        }
    }

    public int count(int what) {
        switch (what) {
            case 0:
                return town.squareCount;
            case 1:
                return town.roadCount;
            case 2:
                return survey.pieces;
            case 3:
                return Integer.bitCount(survey.partingRoads);
            case 4:
                return survey.partingSquares();
            case 5:
                return survey.districts;
            case 6:
                return survey.longestDistrict();
            case 7:
                return town.lengthOf(town.allRoads());
            case 8:
                return pad.length;
            case 9:
                return history.changes;
            default:
                return BAD_VALUE;
        }
    }

    // ---- ways

    public int way(int one, int other, int what) {
        if (!town.hasSquare(one) || !town.hasSquare(other)) {
            return NO_SUCH;
        }
        if (what < 0 || what > 2) {
            return BAD_VALUE;
        }
        if (!survey.hangTogether(one, other)) {
            return NONE;
        }
        if (what == 0) {
            return survey.leastLength(one, other);
        }
        int roads = Integer.bitCount(survey.roadsBetween(one, other));
        return what == 1 ? roads : roads + 1;
    }

    public int must(int one, int other, int place) {
        if (!town.hasSquare(one) || !town.hasSquare(other)) {
            return NO_SUCH;
        }
        if (place < 0) {
            return BAD_VALUE;
        }
        return survey.roadOnWay(one, other, place);
    }

    public int cutOff(int square, int road) {
        if (!town.hasSquare(square) || !town.hasRoad(road)) {
            return NO_SUCH;
        }
        return survey.squaresBehind(square, road);
    }

    // ---- what if

    public int ifBuilt(int one, int other, int what) {
        if (!town.hasSquare(one) || !town.hasSquare(other)) {
            return NO_SUCH;
        }
        if (one == other) {
            return BAD_VALUE;
        }
        int rescued = Integer.bitCount(survey.roadsBetween(one, other));
        switch (what) {
            case 0:
                return rescued;
            case 1:
                return survey.districts - rescued;
            case 2:
                return survey.hangTogether(one, other) ? survey.pieces : survey.pieces - 1;
            default:
                return BAD_VALUE;
        }
    }

    public int bestBuilt(int what) {
        if (what < 0 || what > 2) {
            return BAD_VALUE;
        }
        int bestLower = 0;
        int bestHigher = 1;
        int fewest = survey.partingRoadsAfter(bestLower, bestHigher);
        for (int lower = 0; lower < town.squareCount; lower++) {
            for (int higher = lower + 1; higher < town.squareCount; higher++) {
                int parting = survey.partingRoadsAfter(lower, higher);
                if (parting < fewest) {
                    fewest = parting;
                    bestLower = lower;
                    bestHigher = higher;
                }
            }
        }
        if (what == 2) {
            return fewest;
        }
        return what == 0 ? bestLower : bestHigher;
    }

    public int worstLoss(int what) {
        if (what != 0 && what != 1) {
            return BAD_VALUE;
        }
        if (town.roadCount == 0) {
            return NONE;
        }
        int worst = 0;
        int most = survey.pairsParted(worst);
        for (int road = 1; road < town.roadCount; road++) {
            int pairs = survey.pairsParted(road);
            if (pairs > most) {
                most = pairs;
                worst = road;
            }
        }
        return what == 0 ? worst : most;
    }

    public int needed(int square) {
        if (!town.hasSquare(square)) {
            return NO_SUCH;
        }
        int leaves = survey.leafDistricts(survey.pieceOf[square]);
        return (leaves + 1) / 2;
    }

    // ---- texts

    public int put(long characters) {
        int many = charactersIn(characters);
        if (many == 0) {
            return BAD_VALUE;
        }
        if (pad.length + many > MOST_CHARACTERS) {
            return TOO_MANY;
        }
        pad.append(characters, many);
        return pad.length;
    }

    public int wipe() {
        int before = pad.length;
        pad.length = 0;
        return before;
    }

    public int fault() {
        return pad.parse();
    }

    /** How many characters the number holds, 0 if it holds none or anything that is none. */
    private static int charactersIn(long characters) {
        long rest = characters;
        int many = 0;
        for (int place = 0; place < CHARACTERS_AT_ONCE && rest != 0; place++) {
            long code = rest & CHARACTER_MASK;
            if (code < LEAST_CODE || code > GREATEST_CODE) {
                return 0;
            }
            rest >>>= CHARACTER_BITS;
            many++;
        }
        return many;
    }

    // ---- undo, saving

    public int undo() {
        if (history.changes == 0) {
            return NOT_POSSIBLE;
        }
        history.takeBack(town);
        survey.renew();
        return history.changes;
    }

    public int save(int slot) {
        if (slot < 0 || slot >= SLOTS) {
            return BAD_VALUE;
        }
        slots[slot].copyFrom(town);
        saved[slot] = true;
        return town.roadCount;
    }

    public int restore(int slot) {
        if (slot < 0 || slot >= SLOTS) {
            return BAD_VALUE;
        }
        if (!saved[slot]) {
            return NOT_POSSIBLE;
        }
        history.record(town);
        town.copyFrom(slots[slot]);
        survey.renew();
        return town.roadCount;
    }

    // ---- sets

    private static boolean contains(int set, int member) {
        return (set >> member & 1) != 0;
    }

    private static void setForMembers(int[] row, int set, int value) {
        for (int member = 0; member < row.length; member++) {
            if (contains(set, member)) {
                row[member] = value;
            }
        }
    }

    /** The squares and roads themselves: all that the history and the slots keep. */
    private static final class Town {
        int squareCount = FIRST_SQUARES;
        int roadCount = 0;
        final int[] lower = new int[MOST_ROADS];
        final int[] higher = new int[MOST_ROADS];
        final int[] lengths = new int[MOST_ROADS];
        /** Of each road its two squares as a set, kept because every search goes by it. */
        final int[] ends = new int[MOST_ROADS];

        void copyFrom(Town other) {
            squareCount = other.squareCount;
            roadCount = other.roadCount;
            System.arraycopy(other.lower, 0, lower, 0, MOST_ROADS);
            System.arraycopy(other.higher, 0, higher, 0, MOST_ROADS);
            System.arraycopy(other.lengths, 0, lengths, 0, MOST_ROADS);
            System.arraycopy(other.ends, 0, ends, 0, MOST_ROADS);
        }

        boolean hasSquare(int square) {
            return square >= 0 && square < squareCount;
        }

        boolean hasRoad(int road) {
            return road >= 0 && road < roadCount;
        }

        boolean fitsInto(int squares) {
            for (int road = 0; road < roadCount; road++) {
                if (higher[road] >= squares) {
                    return false;
                }
            }
            return true;
        }

        void addRoad(int one, int other, int length) {
            if (roadCount >= MOST_ROADS) {
                return;
            }
            lower[roadCount] = Math.min(one, other);
            higher[roadCount] = Math.max(one, other);
            lengths[roadCount] = length;
            ends[roadCount] = 1 << one | 1 << other;
            roadCount++;
        }

        void removeRoad(int lost) {
            for (int road = lost + 1; road < roadCount; road++) {
                lower[road - 1] = lower[road];
                higher[road - 1] = higher[road];
                lengths[road - 1] = lengths[road];
                ends[road - 1] = ends[road];
            }
            roadCount--;
        }

        int allRoads() {
            return (1 << roadCount) - 1;
        }

        int roadsAt(int square) {
            int roads = 0;
            for (int road = 0; road < roadCount; road++) {
                if (contains(ends[road], square)) {
                    roads |= 1 << road;
                }
            }
            return roads;
        }

        int roadsWithin(int squares) {
            int roads = 0;
            for (int road = 0; road < roadCount; road++) {
                if ((ends[road] & ~squares) == 0) {
                    roads |= 1 << road;
                }
            }
            return roads;
        }

        int lengthOf(int roads) {
            int sum = 0;
            for (int road = 0; road < roadCount; road++) {
                if (contains(roads, road)) {
                    sum += lengths[road];
                }
            }
            return sum;
        }

        /** The squares, and those to which one of the roads leads from them. */
        int oneRoadFurther(int squares, int roads) {
            int reached = squares;
            for (int road = 0; road < roadCount; road++) {
                if (contains(roads, road) && (ends[road] & squares) != 0) {
                    reached |= ends[road];
                }
            }
            return reached;
        }

        /** All squares to which one can come from the start by these roads, with the start. */
        int reach(int start, int roads) {
            int reached = 1 << start;
            int before = 0;
            for (int round = 0; round < MOST_SQUARES && reached != before; round++) {
                before = reached;
                for (int road = 0; road < roadCount; road++) {
                    if (contains(roads, road) && (ends[road] & reached) != 0) {
                        reached |= ends[road];
                    }
                }
            }
            return reached;
        }
    }

    /** What follows from a town: found anew after each change, so that the questions just look it up. */
    private static final class Survey {
        final Town town;
        final int[] pieceOf = new int[MOST_SQUARES];
        final int[] districtOf = new int[MOST_SQUARES];
        final int[] districtSquares = new int[MOST_SQUARES];
        /** Of each road the squares that hang together with its lower one without it. */
        final int[] lowerSide = new int[MOST_ROADS];
        final int[] distances = new int[MOST_SQUARES];
        int pieces;
        int districts;
        int partingRoads;

        Survey(Town town) {
            this.town = town;
            renew();
        }

        void renew() {
            findPieces();
            findPartingRoads();
            findDistricts();
        }

        private void findPieces() {
            int seen = 0;
            pieces = 0;
            for (int square = 0; square < town.squareCount; square++) {
                if (!contains(seen, square)) {
                    int piece = town.reach(square, town.allRoads());
                    setForMembers(pieceOf, piece, piece);
                    seen |= piece;
                    pieces++;
                }
            }
        }

        private void findPartingRoads() {
            partingRoads = 0;
            for (int road = 0; road < town.roadCount; road++) {
                lowerSide[road] = town.reach(town.lower[road], town.allRoads() & ~(1 << road));
                if (!contains(lowerSide[road], town.higher[road])) {
                    partingRoads |= 1 << road;
                }
            }
        }

        private void findDistricts() {
            int seen = 0;
            districts = 0;
            for (int square = 0; square < town.squareCount; square++) {
                if (!contains(seen, square)) {
                    int members = town.reach(square, town.allRoads() & ~partingRoads);
                    setForMembers(districtOf, members, districts);
                    districtSquares[districts] = members;
                    seen |= members;
                    districts++;
                }
            }
        }

        boolean hangTogether(int one, int other) {
            return contains(pieceOf[one], other);
        }

        /**
         * The squares that the loss of the road cuts off from the square. None if the road does not
         * part, since then its whole piece is on its lower side.
         */
        int squaresBehind(int square, int road) {
            int side = lowerSide[road];
            return pieceOf[square] & (contains(side, square) ? ~side : side);
        }

        int pairsParted(int road) {
            int square = town.lower[road];
            int behind = Integer.bitCount(squaresBehind(square, road));
            return behind * (Integer.bitCount(pieceOf[square]) - behind);
        }

        /** The roads that all ways between two squares must take. */
        int roadsBetween(int one, int other) {
            int roads = 0;
            for (int road = 0; road < town.roadCount; road++) {
                if (contains(squaresBehind(one, road), other)) {
                    roads |= 1 << road;
                }
            }
            return roads;
        }

        /** A road comes sooner on the way than another one if more squares are behind it. */
        int roadOnWay(int one, int other, int place) {
            int onWay = roadsBetween(one, other);
            for (int road = 0; road < town.roadCount; road++) {
                if (contains(onWay, road) && roadsAhead(one, road, onWay) == place) {
                    return road;
                }
            }
            return NONE;
        }

        private int roadsAhead(int start, int road, int onWay) {
            int behind = Integer.bitCount(squaresBehind(start, road));
            int ahead = 0;
            for (int sooner = 0; sooner < town.roadCount; sooner++) {
                if (contains(onWay, sooner) && Integer.bitCount(squaresBehind(start, sooner)) > behind) {
                    ahead++;
                }
            }
            return ahead;
        }

        /** How many roads would part if there was one more between these squares. */
        int partingRoadsAfter(int one, int other) {
            int now = Integer.bitCount(partingRoads);
            return hangTogether(one, other) ? now - Integer.bitCount(roadsBetween(one, other)) : now + 1;
        }

        int morePiecesWithout(int square) {
            int others = pieceOf[square] & ~(1 << square);
            int roads = town.allRoads() & ~town.roadsAt(square);
            int found = 0;
            for (int start = 0; start < town.squareCount; start++) {
                if (contains(others, start)) {
                    others &= ~town.reach(start, roads);
                    found++;
                }
            }
            return Math.max(found - 1, 0);
        }

        int partingSquares() {
            int parting = 0;
            for (int square = 0; square < town.squareCount; square++) {
                if (morePiecesWithout(square) > 0) {
                    parting++;
                }
            }
            return parting;
        }

        int partingRoadsOut(int members) {
            int out = 0;
            for (int road = 0; road < town.roadCount; road++) {
                if (contains(partingRoads, road) && (town.ends[road] & members) != 0) {
                    out++;
                }
            }
            return out;
        }

        int longestDistrict() {
            int longest = 0;
            int most = town.lengthOf(town.roadsWithin(districtSquares[longest]));
            for (int district = 1; district < districts; district++) {
                int length = town.lengthOf(town.roadsWithin(districtSquares[district]));
                if (length > most) {
                    most = length;
                    longest = district;
                }
            }
            return longest;
        }

        /** The districts of a piece with just one road that parts. */
        int leafDistricts(int piece) {
            int leaves = 0;
            for (int district = 0; district < districts; district++) {
                int members = districtSquares[district];
                if ((members & piece) != 0 && partingRoadsOut(members) == 1) {
                    leaves++;
                }
            }
            return leaves;
        }

        /** The ring is the road itself and the shortest way round between its squares. */
        int leastRing(int road) {
            int others = town.allRoads() & ~(1 << road);
            int reached = 1 << town.lower[road];
            for (int ring = 2; ring <= MOST_SQUARES; ring++) {
                reached = town.oneRoadFurther(reached, others);
                if (contains(reached, town.higher[road])) {
                    return ring;
                }
            }
            return NONE;
        }

        /** The least length of a way between two squares that hang together. */
        int leastLength(int one, int other) {
            for (int square = 0; square < MOST_SQUARES; square++) {
                distances[square] = MOST_SQUARES * MOST_LENGTH;
            }
            distances[one] = 0;
            boolean shorter = true;
            for (int round = 0; round < MOST_SQUARES && shorter; round++) {
                shorter = false;
                for (int road = 0; road < town.roadCount; road++) {
                    // A road that shortens the way to its one end can't shorten the way back to the other.
                    if (shorten(town.lower[road], town.higher[road], town.lengths[road])
                            || shorten(town.higher[road], town.lower[road], town.lengths[road])) {
                        shorter = true;
                    }
                }
            }
            return distances[other];
        }

        private boolean shorten(int from, int to, int length) {
            if (distances[from] + length >= distances[to]) {
                return false;
            }
            distances[to] = distances[from] + length;
            return true;
        }
    }

    /** The text, and the numbers that parse finds in it: three of each road. */
    private static final class Pad {
        final char[] characters = new char[MOST_CHARACTERS];
        int length = 0;
        final int[] numbers = new int[MOST_CHARACTERS];
        int numberCount = 0;
        /** The number whose digits are just being parsed, NO_NUMBER before its first one. */
        int number = NO_NUMBER;

        void append(long added, int many) {
            for (int left = many - 1; left >= 0 && length < MOST_CHARACTERS; left--) {
                characters[length] = (char) (added >>> (CHARACTER_BITS * left) & CHARACTER_MASK);
                length++;
            }
        }

        int parsedRoads() {
            return numberCount / NUMBERS_OF_ROAD;
        }

        int parsedOne(int road) {
            return numbers[NUMBERS_OF_ROAD * road];
        }

        int parsedOther(int road) {
            return numbers[NUMBERS_OF_ROAD * road + 1];
        }

        int parsedLength(int road) {
            return numbers[NUMBERS_OF_ROAD * road + PLACE_OF_LENGTH];
        }

        /** Returns the fault of the text, or NONE. */
        int parse() {
            numberCount = 0;
            number = NO_NUMBER;
            for (int place = 0; place < length; place++) {
                if (!takes(characters[place])) {
                    return place;
                }
            }
            if (!atLength() || number == NO_NUMBER) {
                return length;
            }
            keepNumber();
            return NONE;
        }

        private boolean atLength() {
            return numberCount % NUMBERS_OF_ROAD == PLACE_OF_LENGTH;
        }

        private boolean takes(char character) {
            if (character >= '0' && character <= '9') {
                return takesDigit(character - '0');
            }
            if (number == NO_NUMBER || character != characterBehind()) {
                return false;
            }
            keepNumber();
            return true;
        }

        private boolean takesDigit(int digit) {
            if (number == NO_NUMBER) {
                number = digit;
                return digit > 0 || !atLength();
            }
            int longer = number * 10 + digit;
            // A 0 that a digit follows would be a leading one.
            if (number == 0 || longer > (atLength() ? MOST_LENGTH : MOST_SQUARES - 1)) {
                return false;
            }
            number = longer;
            return true;
        }

        private char characterBehind() {
            switch (numberCount % NUMBERS_OF_ROAD) {
                case 0:
                    return '-';
                case 1:
                    return ':';
                default:
                    return ';';
            }
        }

        private void keepNumber() {
            if (numberCount < MOST_CHARACTERS) {
                numbers[numberCount] = number;
                numberCount++;
            }
            number = NO_NUMBER;
        }
    }

    /** The states before the latest changes, the oldest one first. */
    private static final class History {
        final Town[] states = new Town[MOST_CHANGES];
        int changes = 0;

        History() {
            for (int change = 0; change < MOST_CHANGES; change++) {
                states[change] = new Town();
            }
        }

        void record(Town town) {
            if (changes >= MOST_CHANGES) {
                dropOldest();
            }
            states[changes].copyFrom(town);
            changes++;
        }

        /** Moves the oldest state's object to the end, where the next change uses it again. */
        private void dropOldest() {
            Town oldest = states[0];
            for (int change = 1; change < MOST_CHANGES; change++) {
                states[change - 1] = states[change];
            }
            states[MOST_CHANGES - 1] = oldest;
            changes = MOST_CHANGES - 1;
        }

        void takeBack(Town town) {
            if (changes > 0) {
                changes--;
                town.copyFrom(states[changes]);
            }
        }
    }
}
