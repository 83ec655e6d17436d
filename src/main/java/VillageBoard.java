/**
 * The rules of a worker placement game for two to four players, with a search for the best
 * placements of the player in turn, a history of moves, an undo stack and a checksum.
 *
 * What each call promises stands in the project's document; the comments here only give reasons.
 */
public final class VillageBoard {
    public static final int NONE = -1;
    public static final int WOOD = 0, CLAY = 1, GRAIN = 2, SHEEP = 3, FOOD = 4;

    private static final int GOODS = 5;
    private static final int MIN_PLAYERS = 2, MAX_PLAYERS = 4;
    private static final int MIN_ROUNDS = 1, MAX_ROUNDS = 12;
    private static final int FIRST_GAME_PLAYERS = 2, FIRST_GAME_ROUNDS = 6;

    private static final int FOREST = 0, CLAY_PIT = 1, FIELD = 2, LAKE = 3, LABOUR = 4, PASTURE = 5;
    private static final int ROOM = 6, GROWTH = 7, MILL = 8, BUILD = 9, START = 10, MARKET = 11;
    private static final int SPACES = 12;
    private static final int[] PLACES = {1, 1, 1, 1, 2, 1, 1, 1, 1, 2, 1, 2};
    private static final int[] SUPPLY = {3, 2, 0, 1, 0, 1, 0, 0, 0, 0, 0, 0};
    private static final int[] FIRST_CHOICE = {0, 0, 0, 0, 0, 0, 0, 0, 1, 0, 0, 0};
    private static final int[] LAST_CHOICE = {0, 0, 0, 0, 0, 0, 0, 0, 3, 7, 0, 24};
    private static final int GROWTH_OPENS = 2;
    /** A placement as one number is this times its space, plus its choice. */
    private static final int SPACE_STEP = 100;
    /** Nine spaces without a choice, 3 choices of the mill, 8 buildings, 20 pairs of goods. */
    private static final int MOST_PLACEMENTS = 40;

    private static final int OVEN = 0, SAWMILL = 1, STOREHOUSE = 2, SMOKEHOUSE = 3;
    private static final int BUNKHOUSE = 4, WELL = 5, CARPENTER = 6, KILN = 7;
    private static final int BUILDINGS = 8;
    /** The price of a room (building NONE, -1) stands ahead of those of the buildings. */
    private static final int[] WOOD_PRICE = {4, 0, 2, 2, 1, 3, 0, 1, 0};
    private static final int[] CLAY_PRICE = {1, 3, 1, 0, 1, 0, 2, 0, 1};
    private static final int[] BUILDING_POINTS = {2, 2, 1, 1, 1, 2, 1, 1};

    private static final int FIRST_FAMILY = 2, FIRST_ROOMS = 2, MOST_FAMILY = 5, MOST_ROOMS = 5;
    private static final int FOOD_OF_FIRST_PLAYER = 2, FOOD_OF_OTHERS = 3;
    private static final int FOOD_PER_MEMBER = 2, FOOD_OF_SHEEP = 2, FOOD_OF_SMOKED_SHEEP = 4;
    private static final int FOOD_OF_GRAIN = 3, FOOD_OF_BAKED_GRAIN = 5, FOOD_OF_LABOUR = 2;
    private static final int SHEEP_THAT_BREED = 2, GRAIN_THAT_KEEPS = 3, MARKET_PRICE = 2;
    private static final int MEMBER_POINTS = 3, MOST_SHEEP_POINTS = 5, GRAIN_PER_POINT = 2, TOKEN_POINTS = -3;

    private static final int POSSIBLE = 0, GAME_OVER = 1, FULL = 2, NOT_OPEN = 3, NO_SUCH_CHOICE = 4, NOT_ALLOWED = 5;

    private static final int PLAYER_PARTS = 6, SPACE_PARTS = 4, SCORE_PARTS = 6, WHOLE_SCORE = 6;
    private static final int KEPT_MOVES = 30, MOVE_PARTS = 4;
    private static final int KEPT_STATES = 4;
    private static final int MAX_DEPTH = 3, MAX_PLAY_DEPTH = 2, MAX_PLAY_MOVES = 10;
    private static final long DIGEST_START = 18482L;

    private final Game game = new Game();
    private final UndoStack undoStack = new UndoStack();
    private final Search search = new Search();
    private final int[] placements = new int[MOST_PLACEMENTS];

    public VillageBoard() {
        game.begin(FIRST_GAME_PLAYERS, FIRST_GAME_ROUNDS);
    }

    // ---- the game

    public int newGame(int players, int rounds) throws IllegalArgumentException {
        requireArgument(players >= MIN_PLAYERS && players <= MAX_PLAYERS);
        requireArgument(rounds >= MIN_ROUNDS && rounds <= MAX_ROUNDS);
        undoStack.push(game);
        int finished = game.round - 1;
        game.begin(players, rounds);
        return finished;
    }

    public int reason(int space, int choice) throws IndexOutOfBoundsException {
        requireIndex(space >= 0 && space < SPACES);
        return game.obstacle(space, choice);
    }

    public int place(int space, int choice) throws IndexOutOfBoundsException, IllegalStateException {
        requireIndex(space >= 0 && space < SPACES);
        requireState(game.obstacle(space, choice) == POSSIBLE);
        undoStack.push(game);
        game.makePlacement(space, choice);
        return game.inTurn;
    }

    public int skip() throws IllegalStateException {
        requireState(!game.isOver() && game.listPlacements(placements) == 0);
        undoStack.push(game);
        game.makeSkip();
        return game.inTurn;
    }

    public int play(int depth, int moves) throws IllegalArgumentException {
        requireArgument(depth >= 1 && depth <= MAX_PLAY_DEPTH);
        requireArgument(moves >= 1 && moves <= MAX_PLAY_MOVES);
        undoStack.push(game);
        int made = 0;
        while (made < moves && !game.isOver()) {
            search.run(game, depth);
            int placement = search.bestStep(0);
            if (placement == NONE) {
                game.makeSkip();
            } else {
                game.makePlacement(placement / SPACE_STEP, placement % SPACE_STEP);
            }
            made++;
        }
        return made;
    }

    // ---- the state of the game

    public int players() {
        return game.playerCount;
    }

    public int round() {
        return game.round;
    }

    public int inTurn() {
        return game.inTurn;
    }

    public int startPlayer() {
        return game.startPlayer;
    }

    public int goods(int player, int good) throws IndexOutOfBoundsException, IllegalArgumentException {
        requirePlayer(player);
        requireArgument(good >= 0 && good < GOODS);
        return game.players[player].goods[good];
    }

    public int player(int player, int what) throws IndexOutOfBoundsException, IllegalArgumentException {
        requirePlayer(player);
        requireArgument(what >= 0 && what < PLAYER_PARTS);
        return game.players[player].part(what);
    }

    public int owner(int building) throws IndexOutOfBoundsException {
        requireIndex(building >= 0 && building < BUILDINGS);
        return game.ownerOf(building);
    }

    public int space(int space, int what) throws IndexOutOfBoundsException, IllegalArgumentException {
        requireIndex(space >= 0 && space < SPACES);
        requireArgument(what >= 0 && what < SPACE_PARTS);
        return game.spacePart(space, what);
    }

    public int cost(int player, int building, int good) throws IndexOutOfBoundsException, IllegalArgumentException {
        requirePlayer(player);
        requireArgument(building >= NONE && building < BUILDINGS);
        requireArgument(good == WOOD || good == CLAY);
        return game.players[player].price(building, good);
    }

    public int need(int player) throws IndexOutOfBoundsException {
        requirePlayer(player);
        return game.players[player].foodNeeded();
    }

    public int missing(int player) throws IndexOutOfBoundsException {
        requirePlayer(player);
        return game.players[player].foodMissing();
    }

    public int score(int player, int part) throws IndexOutOfBoundsException, IllegalArgumentException {
        requirePlayer(player);
        requireArgument(part >= 0 && part <= WHOLE_SCORE);
        Player counted = game.players[player];
        return part == WHOLE_SCORE ? counted.wholeScore() : counted.scorePart(part);
    }

    public int rank(int player) throws IndexOutOfBoundsException {
        requirePlayer(player);
        return game.rankOf(player);
    }

    public int possible() {
        return game.listPlacements(placements);
    }

    public int option(int index) throws IndexOutOfBoundsException {
        requireIndex(index >= 0 && index < game.listPlacements(placements));
        return placements[index];
    }

    // ---- search and history

    public int bestScore(int depth) throws IllegalArgumentException {
        requireArgument(depth >= 1 && depth <= MAX_DEPTH);
        search.run(game, depth);
        return search.bestResult();
    }

    public int bestPlacement(int depth, int index) throws IllegalArgumentException {
        requireArgument(depth >= 1 && depth <= MAX_DEPTH);
        requireArgument(index >= 0 && index < depth);
        search.run(game, depth);
        return search.bestStep(index);
    }

    public int moves() {
        return game.history.size;
    }

    public int move(int index, int what) throws IndexOutOfBoundsException, IllegalArgumentException {
        requireIndex(index >= 0 && index < game.history.size);
        requireArgument(what >= 0 && what < MOVE_PARTS);
        return game.history.part(index, what);
    }

    // ---- undo and checksum

    public int undo() throws IllegalStateException {
        requireState(undoStack.size > 0);
        undoStack.pop(game);
        return undoStack.size;
    }

    public long digest() {
        long hash = mix(DIGEST_START, undoStack.size);
        hash = mix(hash, game.playerCount);
        hash = mix(hash, game.round);
        hash = mix(hash, game.rounds);
        hash = mix(hash, game.inTurn);
        hash = mix(hash, game.startPlayer);
        for (int player = 0; player < game.playerCount; player++) {
            hash = mixPlayer(hash, player);
        }
        hash = mixSpaces(hash);
        hash = mix(hash, game.listPlacements(placements));
        search.run(game, 1);
        hash = mix(hash, search.bestResult());
        hash = mix(hash, search.bestStep(0));
        return mixHistory(hash);
    }

    // ---- help for the calls above

    private long mixPlayer(long hash, int number) {
        Player player = game.players[number];
        long mixed = hash;
        for (int good = 0; good < GOODS; good++) {
            mixed = mix(mixed, player.goods[good]);
        }
        for (int what = 0; what < PLAYER_PARTS; what++) {
            mixed = mix(mixed, player.part(what));
        }
        mixed = mix(mixed, player.foodNeeded());
        mixed = mix(mixed, player.foodMissing());
        for (int part = 0; part < SCORE_PARTS; part++) {
            mixed = mix(mixed, player.scorePart(part));
        }
        mixed = mix(mixed, player.wholeScore());
        return mix(mixed, game.rankOf(number));
    }

    private long mixSpaces(long hash) {
        long mixed = hash;
        for (int space = 0; space < SPACES; space++) {
            for (int what = 0; what < SPACE_PARTS; what++) {
                mixed = mix(mixed, game.spacePart(space, what));
            }
        }
        return mixed;
    }

    private long mixHistory(long hash) {
        long mixed = mix(hash, game.history.size);
        for (int index = 0; index < game.history.size; index++) {
            for (int what = 0; what < MOVE_PARTS; what++) {
                mixed = mix(mixed, game.history.part(index, what));
            }
        }
        return mixed;
    }

    private static long mix(long hash, long value) {
        return 31L * hash + value;
    }

    private void requirePlayer(int player) {
        requireIndex(player >= 0 && player < game.playerCount);
    }

    private static void requireIndex(boolean inRange) {
        if (!inRange) {
            throw new IndexOutOfBoundsException("there is no such one");
        }
    }

    private static void requireArgument(boolean inRange) {
        if (!inRange) {
            throw new IllegalArgumentException("an argument is out of range");
        }
    }

    private static void requireState(boolean allowed) {
        if (!allowed) {
            throw new IllegalStateException("this is impossible now");
        }
    }

    /** What one player has, and the rules that look at this player alone. */
    private static final class Player {
        final int[] goods = new int[GOODS];
        int family;
        int newcomers;
        int freeWorkers;
        int rooms;
        int beggingTokens;
        int buildings;

        /** The start of the first round sets what changes with each round. */
        void begin(int food) {
            for (int good = 0; good < GOODS; good++) {
                goods[good] = 0;
            }
            goods[FOOD] = food;
            family = FIRST_FAMILY;
            rooms = FIRST_ROOMS;
            beggingTokens = 0;
            buildings = 0;
        }

        void copyFrom(Player other) {
            System.arraycopy(other.goods, 0, goods, 0, GOODS);
            family = other.family;
            newcomers = other.newcomers;
            freeWorkers = other.freeWorkers;
            rooms = other.rooms;
            beggingTokens = other.beggingTokens;
            buildings = other.buildings;
        }

        int part(int what) {
            switch (what) {
                case 0: return family;
                case 1: return newcomers;
                case 2: return freeWorkers;
                case 3: return rooms;
                case 4: return beggingTokens;
                default: return buildings;
            }
        }

        boolean has(int building) {
            return (buildings >> building & 1) != 0;
        }

        /** The building is NONE for a room; the good is WOOD or CLAY. */
        int price(int building, int good) {
            int[] prices = good == WOOD ? WOOD_PRICE : CLAY_PRICE;
            int helper = good == WOOD ? CARPENTER : KILN;
            int discount = building == helper ? 0 : buildings >> helper & 1;
            return Math.max(0, prices[building + 1] - discount);
        }

        boolean canAfford(int building) {
            return goods[WOOD] >= price(building, WOOD) && goods[CLAY] >= price(building, CLAY);
        }

        void payFor(int building) {
            goods[WOOD] -= price(building, WOOD);
            goods[CLAY] -= price(building, CLAY);
        }

        boolean canGrow() {
            int beds = has(BUNKHOUSE) ? rooms + 1 : rooms;
            return family < MOST_FAMILY && family < beds;
        }

        void grow() {
            family++;
            newcomers++;
        }

        void startRound() {
            newcomers = 0;
            freeWorkers = family;
            if (has(WELL)) {
                goods[FOOD]++;
            }
        }

        void endRound(boolean feeding) {
            if (feeding) {
                feed();
                breed();
            }
            if (goods[GRAIN] > GRAIN_THAT_KEEPS && !has(STOREHOUSE)) {
                goods[GRAIN] = GRAIN_THAT_KEEPS;
            }
        }

        private void feed() {
            int due = foodNeeded();
            int eaten = Math.min(due, goods[FOOD]);
            goods[FOOD] -= eaten;
            due -= eaten;
            int ground = Math.min(due, goods[GRAIN]);
            goods[GRAIN] -= ground;
            due -= ground;
            int foodOfSheep = has(SMOKEHOUSE) ? FOOD_OF_SMOKED_SHEEP : FOOD_OF_SHEEP;
            while (due > 0 && goods[SHEEP] > 0) {
                goods[SHEEP]--;
                due -= foodOfSheep;
            }
            // Only the last sheep can give too much, so less than nothing due is food left over.
            if (due < 0) {
                goods[FOOD] -= due;
            } else {
                beggingTokens += due;
            }
        }

        private void breed() {
            if (goods[SHEEP] >= SHEEP_THAT_BREED) {
                goods[SHEEP]++;
            }
        }

        int foodNeeded() {
            // A newcomer needs one food less than the others.
            return FOOD_PER_MEMBER * family - newcomers;
        }

        int foodMissing() {
            int foodOfSheep = has(SMOKEHOUSE) ? FOOD_OF_SMOKED_SHEEP : FOOD_OF_SHEEP;
            int available = goods[FOOD] + goods[GRAIN] + goods[SHEEP] * foodOfSheep;
            return Math.max(0, foodNeeded() - available);
        }

        int foodOfMilledGrain() {
            return has(OVEN) ? FOOD_OF_BAKED_GRAIN : FOOD_OF_GRAIN;
        }

        int scorePart(int part) {
            switch (part) {
                case 0: return MEMBER_POINTS * family;
                case 1: return rooms;
                case 2: return Math.min(MOST_SHEEP_POINTS, goods[SHEEP]);
                case 3: return goods[GRAIN] / GRAIN_PER_POINT;
                case 4: return buildingPoints();
                default: return TOKEN_POINTS * beggingTokens;
            }
        }

        private int buildingPoints() {
            int points = 0;
            for (int building = 0; building < BUILDINGS; building++) {
                points += BUILDING_POINTS[building] * (buildings >> building & 1);
            }
            return points;
        }

        int wholeScore() {
            int sum = 0;
            for (int part = 0; part < SCORE_PARTS; part++) {
                sum += scorePart(part);
            }
            return sum;
        }

        boolean isAheadOf(Player other) {
            int own = wholeScore();
            int others = other.wholeScore();
            return own > others || own == others && goods[FOOD] > other.goods[FOOD];
        }
    }

    /** The latest moves, in a ring so that a new one overwrites the oldest. */
    private static final class History {
        private final int[] parts = new int[KEPT_MOVES * MOVE_PARTS];
        private int oldest;
        int size;

        void clear() {
            oldest = 0;
            size = 0;
        }

        void copyFrom(History other) {
            System.arraycopy(other.parts, 0, parts, 0, KEPT_MOVES * MOVE_PARTS);
            oldest = other.oldest;
            size = other.size;
        }

        void add(int round, int player, int space, int choice) {
            int at = startOf(size);
            parts[at] = round;
            parts[at + 1] = player;
            parts[at + 2] = space;
            parts[at + 3] = choice;
            if (size < KEPT_MOVES) {
                size++;
            } else {
                oldest = (oldest + 1) % KEPT_MOVES;
            }
        }

        int part(int index, int what) {
            return parts[startOf(index) + what];
        }

        private int startOf(int index) {
            return (oldest + index) % KEPT_MOVES * MOVE_PARTS;
        }
    }

    /** The whole state that undo restores, and the rules of rounds and placements. */
    private static final class Game {
        int playerCount;
        int rounds;
        int round;
        int inTurn;
        int startPlayer;
        final Player[] players = new Player[MAX_PLAYERS];
        final int[] lying = new int[SPACES];
        final int[] occupied = new int[SPACES];
        final int[] firstThere = new int[SPACES];
        final History history = new History();

        Game() {
            for (int player = 0; player < MAX_PLAYERS; player++) {
                players[player] = new Player();
            }
        }

        void begin(int newPlayerCount, int newRounds) {
            playerCount = newPlayerCount;
            rounds = newRounds;
            round = 1;
            startPlayer = 0;
            history.clear();
            for (int player = 0; player < MAX_PLAYERS; player++) {
                players[player].begin(player == 0 ? FOOD_OF_FIRST_PLAYER : FOOD_OF_OTHERS);
            }
            for (int space = 0; space < SPACES; space++) {
                lying[space] = 0;
            }
            startRound();
        }

        void copyFrom(Game other) {
            playerCount = other.playerCount;
            rounds = other.rounds;
            round = other.round;
            inTurn = other.inTurn;
            startPlayer = other.startPlayer;
            for (int player = 0; player < MAX_PLAYERS; player++) {
                players[player].copyFrom(other.players[player]);
            }
            System.arraycopy(other.lying, 0, lying, 0, SPACES);
            System.arraycopy(other.occupied, 0, occupied, 0, SPACES);
            System.arraycopy(other.firstThere, 0, firstThere, 0, SPACES);
            history.copyFrom(other.history);
        }

        boolean isOver() {
            return inTurn == NONE;
        }

        boolean feedsAtEnd() {
            return round % 2 == 0 || round == rounds;
        }

        private void startRound() {
            for (int space = 0; space < SPACES; space++) {
                lying[space] += SUPPLY[space];
                occupied[space] = 0;
                firstThere[space] = NONE;
            }
            for (int player = 0; player < playerCount; player++) {
                players[player].startRound();
            }
            inTurn = startPlayer;
        }

        private void endRound() {
            boolean feeding = feedsAtEnd();
            for (int player = 0; player < playerCount; player++) {
                players[player].endRound(feeding);
            }
            round++;
            if (round > rounds) {
                inTurn = NONE;
            } else {
                startRound();
            }
        }

        private void passTurn() {
            for (int step = 1; step <= playerCount; step++) {
                int next = inTurn + step;
                if (next >= playerCount) {
                    next -= playerCount;
                }
                if (players[next].freeWorkers > 0) {
                    inTurn = next;
                    return;
                }
            }
            endRound();
        }

        /** The placement must be possible. */
        void makePlacement(int space, int choice) {
            history.add(round, inTurn, space, choice);
            carryOut(players[inTurn], space, choice);
            occupy(space);
            passTurn();
        }

        void makeSkip() {
            history.add(round, inTurn, NONE, 0);
            players[inTurn].freeWorkers = 0;
            passTurn();
        }

        private void occupy(int space) {
            lying[space] = 0;
            occupied[space]++;
            if (firstThere[space] == NONE) {
                firstThere[space] = inTurn;
            }
            if (space == START) {
                startPlayer = inTurn;
            }
        }

        /** Changes the player alone, so that the search can take it back by restoring the player. */
        void carryOut(Player player, int space, int choice) {
            int[] goods = player.goods;
            player.freeWorkers--;
            switch (space) {
                case FOREST:
                    goods[WOOD] += player.has(SAWMILL) ? lying[space] + 1 : lying[space];
                    break;
                case CLAY_PIT:
                    goods[CLAY] += lying[space];
                    break;
                case LAKE:
                    goods[FOOD] += lying[space];
                    break;
                case PASTURE:
                    goods[SHEEP] += lying[space];
                    break;
                case FIELD:
                case START:
                    goods[GRAIN]++;
                    break;
                case LABOUR:
                    goods[FOOD] += FOOD_OF_LABOUR;
                    break;
                case ROOM:
                    player.payFor(NONE);
                    player.rooms++;
                    break;
                case GROWTH:
                    player.grow();
                    break;
                case MILL:
                    goods[GRAIN] -= choice;
                    goods[FOOD] += choice * player.foodOfMilledGrain();
                    break;
                case BUILD:
                    player.payFor(choice);
                    player.buildings |= 1 << choice;
                    break;
                case MARKET:
                    goods[choice / GOODS] -= MARKET_PRICE;
                    goods[choice % GOODS]++;
                    break;
                default:
                    break;
            }
        }

        int obstacle(int space, int choice) {
            int closed = spaceObstacle(space);
            if (closed != POSSIBLE) {
                return closed;
            }
            if (!isChoice(space, choice)) {
                return NO_SUCH_CHOICE;
            }
            return isAllowed(players[inTurn], space, choice) ? POSSIBLE : NOT_ALLOWED;
        }

        private int spaceObstacle(int space) {
            if (isOver()) {
                return GAME_OVER;
            }
            if (occupied[space] >= PLACES[space]) {
                return FULL;
            }
            return space == GROWTH && round < GROWTH_OPENS ? NOT_OPEN : POSSIBLE;
        }

        private static boolean isChoice(int space, int choice) {
            boolean inRange = choice >= FIRST_CHOICE[space] && choice <= LAST_CHOICE[space];
            return inRange && (space != MARKET || choice / GOODS != choice % GOODS);
        }

        /** Whether a player could carry out a choice that exists on a space that has room. */
        private boolean isAllowed(Player player, int space, int choice) {
            switch (space) {
                case ROOM:
                    return player.rooms < MOST_ROOMS && player.canAfford(NONE);
                case GROWTH:
                    return player.canGrow();
                case MILL:
                    return player.goods[GRAIN] >= choice;
                case BUILD:
                    return ownerOf(choice) == NONE && player.canAfford(choice);
                case MARKET:
                    return player.goods[choice / GOODS] >= MARKET_PRICE;
                default:
                    return true;
            }
        }

        /** Writes the possible placements into a row, in ascending order; tells how many there are. */
        int listPlacements(int[] row) {
            int count = 0;
            for (int space = 0; space < SPACES; space++) {
                if (spaceObstacle(space) != POSSIBLE) {
                    continue;
                }
                for (int choice = FIRST_CHOICE[space]; choice <= LAST_CHOICE[space]; choice++) {
                    boolean fits = count < row.length && isChoice(space, choice);
                    if (fits && isAllowed(players[inTurn], space, choice)) {
                        row[count] = SPACE_STEP * space + choice;
                        count++;
                    }
                }
            }
            return count;
        }

        int ownerOf(int building) {
            for (int player = 0; player < playerCount; player++) {
                if (players[player].has(building)) {
                    return player;
                }
            }
            return NONE;
        }

        int rankOf(int number) {
            int rank = 1;
            for (int other = 0; other < playerCount; other++) {
                if (players[other].isAheadOf(players[number])) {
                    rank++;
                }
            }
            return rank;
        }

        int spacePart(int space, int what) {
            switch (what) {
                case 0: return lying[space];
                case 1: return occupied[space];
                case 2: return PLACES[space];
                default: return firstThere[space];
            }
        }
    }

    /** The latest saved states, in a ring so that a new one overwrites the oldest. */
    private static final class UndoStack {
        private final Game[] states = new Game[KEPT_STATES];
        private int next;
        int size;

        UndoStack() {
            for (int at = 0; at < KEPT_STATES; at++) {
                states[at] = new Game();
            }
        }

        void push(Game game) {
            states[next].copyFrom(game);
            next = (next + 1) % KEPT_STATES;
            size = Math.min(size + 1, KEPT_STATES);
        }

        /** The stack must not be empty. */
        void pop(Game game) {
            next = (next + KEPT_STATES - 1) % KEPT_STATES;
            size--;
            game.copyFrom(states[next]);
        }
    }

    /** Tries all sequences of placements of the player in turn, on a copy of the game. */
    private static final class Search {
        private final Game trial = new Game();
        private final Player[] before = new Player[MAX_DEPTH];
        private final Player atEnd = new Player();
        private final int[][] options = new int[MAX_DEPTH][MOST_PLACEMENTS];
        private final int[] steps = new int[MAX_DEPTH];
        private final int[] bestSteps = new int[MAX_DEPTH];
        private int depth;
        private int bestLength;
        private int best;

        Search() {
            for (int level = 0; level < MAX_DEPTH; level++) {
                before[level] = new Player();
            }
        }

        void run(Game game, int newDepth) {
            depth = Math.min(newDepth, MAX_DEPTH);
            bestLength = 0;
            if (!game.isOver()) {
                trial.copyFrom(game);
                explore(0);
            }
        }

        int bestResult() {
            return bestLength == 0 ? NONE : best;
        }

        int bestStep(int index) {
            return index >= 0 && index < bestLength ? bestSteps[index] : NONE;
        }

        /** The level never passes the depth, which is 3 at most. */
        private void explore(int level) {
            Player mover = trial.players[trial.inTurn];
            int count = 0;
            if (level < depth && mover.freeWorkers > 0) {
                count = trial.listPlacements(options[level]);
            }
            if (count == 0) {
                judge(level);
                return;
            }
            before[level].copyFrom(mover);
            for (int index = 0; index < count; index++) {
                int placement = options[level][index];
                int space = placement / SPACE_STEP;
                steps[level] = placement;
                trial.carryOut(mover, space, placement % SPACE_STEP);
                trial.occupied[space]++;
                explore(level + 1);
                trial.occupied[space]--;
                mover.copyFrom(before[level]);
            }
        }

        private void judge(int length) {
            atEnd.copyFrom(trial.players[trial.inTurn]);
            atEnd.endRound(trial.feedsAtEnd());
            int result = atEnd.wholeScore();
            // Sequences come in lexicographic order, so an equal one later on is never better.
            if (length > 0 && (bestLength == 0 || result > best)) {
                best = result;
                bestLength = length;
                System.arraycopy(steps, 0, bestSteps, 0, length);
            }
        }
    }
}
