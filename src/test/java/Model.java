import java.util.ArrayList;
import java.util.List;

/**
 * A second, slow reading of the document, to compare the class with: every state is a whole copy,
 * goods are paid one by one, and the search tries each placement on a copy of the game.
 */
final class Model {
    private static final String[] BUILDING_TABLE = {
        "0 3 2", "2 1 2", "2 0 1", "1 1 1", "3 0 1", "0 2 2", "1 0 1", "0 1 1"};
    private static final int OVER = -1;

    private int n;
    private int rounds;
    private int round;
    private int turn;
    private int marker;
    private int[][] goods = new int[4][5];
    private int[] family = new int[4];
    private int[] came = new int[4];
    private int[] free = new int[4];
    private int[] rooms = new int[4];
    private int[] begging = new int[4];
    private int[] ownerOf = new int[8];
    private int[] lying = new int[12];
    private List<List<Integer>> visitors = new ArrayList<>();
    private List<int[]> history = new ArrayList<>();
    private List<Model> saved = new ArrayList<>();

    Model() {
        setUp(2, 6);
    }

    private Model(Model other) {
        take(other);
    }

    private void take(Model other) {
        n = other.n;
        rounds = other.rounds;
        round = other.round;
        turn = other.turn;
        marker = other.marker;
        for (int p = 0; p < 4; p++) {
            goods[p] = other.goods[p].clone();
        }
        family = other.family.clone();
        came = other.came.clone();
        free = other.free.clone();
        rooms = other.rooms.clone();
        begging = other.begging.clone();
        ownerOf = other.ownerOf.clone();
        lying = other.lying.clone();
        visitors = new ArrayList<>();
        for (List<Integer> there : other.visitors) {
            visitors.add(new ArrayList<>(there));
        }
        history = new ArrayList<>(other.history);
    }

    private void setUp(int players, int newRounds) {
        n = players;
        rounds = newRounds;
        marker = 0;
        history = new ArrayList<>();
        ownerOf = new int[] {-1, -1, -1, -1, -1, -1, -1, -1};
        lying = new int[12];
        for (int p = 0; p < 4; p++) {
            goods[p] = new int[] {0, 0, 0, 0, p == 0 ? 2 : 3};
            family[p] = 2;
            rooms[p] = 2;
            begging[p] = 0;
        }
        beginRound(1);
    }

    private void beginRound(int number) {
        round = number;
        lying[0] += 3;
        lying[1] += 2;
        lying[3] += 1;
        lying[5] += 1;
        visitors = new ArrayList<>();
        for (int s = 0; s < 12; s++) {
            visitors.add(new ArrayList<>());
        }
        if (ownerOf[5] >= 0) {
            goods[ownerOf[5]][4]++;
        }
        came = new int[4];
        free = family.clone();
        turn = marker;
    }

    private boolean over() {
        return turn == OVER;
    }

    private void save() {
        saved.add(new Model(this));
        if (saved.size() > 4) {
            saved.remove(0);
        }
    }

    // ---- the game

    int newGame(int players, int newRounds) {
        if (players < 2 || players > 4 || newRounds < 1 || newRounds > 12) {
            throw new IllegalArgumentException();
        }
        save();
        int finished = over() ? rounds : round - 1;
        setUp(players, newRounds);
        return finished;
    }

    int reason(int space, int choice) {
        if (space < 0 || space > 11) {
            throw new IndexOutOfBoundsException();
        }
        if (over()) {
            return 1;
        }
        if (visitors.get(space).size() == space(space, 2)) {
            return 2;
        }
        if (space == 7 && round == 1) {
            return 3;
        }
        if (!choiceExists(space, choice)) {
            return 4;
        }
        return actionPossible(space, choice) ? 0 : 5;
    }

    private static boolean choiceExists(int space, int choice) {
        if (space == 8) {
            return choice == 1 || choice == 2 || choice == 3;
        }
        if (space == 9) {
            return choice >= 0 && choice < 8;
        }
        if (space == 11) {
            for (int a = 0; a < 5; a++) {
                for (int b = 0; b < 5; b++) {
                    if (a != b && choice == 5 * a + b) {
                        return true;
                    }
                }
            }
            return false;
        }
        return choice == 0;
    }

    private boolean actionPossible(int space, int choice) {
        int[] own = goods[turn];
        if (space == 6) {
            return rooms[turn] < 5 && own[0] >= cost(turn, -1, 0) && own[1] >= cost(turn, -1, 1);
        }
        if (space == 7) {
            int limit = rooms[turn] + (ownerOf[4] == turn ? 1 : 0);
            return family[turn] < 5 && family[turn] < limit;
        }
        if (space == 8) {
            return own[2] >= choice;
        }
        if (space == 9) {
            return ownerOf[choice] == -1 && own[0] >= cost(turn, choice, 0) && own[1] >= cost(turn, choice, 1);
        }
        return space != 11 || own[choice / 5] >= 2;
    }

    int place(int space, int choice) {
        if (reason(space, choice) != 0) {
            throw new IllegalStateException();
        }
        save();
        put(space, choice);
        return turn;
    }

    private void put(int space, int choice) {
        history.add(new int[] {round, turn, space, choice});
        act(space, choice);
        nextTurn();
    }

    private void act(int space, int choice) {
        int[] own = goods[turn];
        visitors.get(space).add(turn);
        free[turn]--;
        if (space == 0) {
            own[0] += lying[0] + (ownerOf[1] == turn ? 1 : 0);
        } else if (space == 1) {
            own[1] += lying[1];
        } else if (space == 2) {
            own[2] += 1;
        } else if (space == 3) {
            own[4] += lying[3];
        } else if (space == 4) {
            own[4] += 2;
        } else if (space == 5) {
            own[3] += lying[5];
        } else if (space == 6) {
            pay(-1);
            rooms[turn]++;
        } else if (space == 7) {
            family[turn]++;
            came[turn]++;
        } else if (space == 8) {
            own[2] -= choice;
            own[4] += choice * (ownerOf[0] == turn ? 5 : 3);
        } else if (space == 9) {
            pay(choice);
            ownerOf[choice] = turn;
        } else if (space == 10) {
            own[2] += 1;
            marker = turn;
        } else {
            own[choice / 5] -= 2;
            own[choice % 5] += 1;
        }
        lying[space] = 0;
    }

    private void pay(int building) {
        int wood = cost(turn, building, 0);
        int clay = cost(turn, building, 1);
        goods[turn][0] -= wood;
        goods[turn][1] -= clay;
    }

    private void nextTurn() {
        int candidate = turn;
        for (int i = 0; i < n; i++) {
            candidate = candidate == n - 1 ? 0 : candidate + 1;
            if (free[candidate] > 0) {
                turn = candidate;
                return;
            }
        }
        for (int p = 0; p < n; p++) {
            endRoundOf(p);
        }
        if (round == rounds) {
            turn = OVER;
        } else {
            beginRound(round + 1);
        }
    }

    private void endRoundOf(int p) {
        if (round == rounds || round == 2 || round == 4 || round == 6 || round == 8 || round == 10 || round == 12) {
            begging[p] += eat(p);
            if (goods[p][3] > 1) {
                goods[p][3] += 1;
            }
        }
        while (goods[p][2] > 3 && ownerOf[2] != p) {
            goods[p][2]--;
        }
    }

    /** Feeds the family of a player and tells what is missing. */
    private int eat(int p) {
        int hunger = need(p);
        while (hunger > 0) {
            if (goods[p][4] > 0) {
                goods[p][4]--;
                hunger--;
            } else if (goods[p][2] > 0) {
                goods[p][2]--;
                goods[p][4]++;
            } else if (goods[p][3] > 0) {
                goods[p][3]--;
                goods[p][4] += ownerOf[3] == p ? 4 : 2;
            } else {
                return hunger;
            }
        }
        return 0;
    }

    int skip() {
        if (over() || possible() > 0) {
            throw new IllegalStateException();
        }
        save();
        pass();
        return turn;
    }

    private void pass() {
        history.add(new int[] {round, turn, -1, 0});
        free[turn] = 0;
        nextTurn();
    }

    int play(int depth, int moves) {
        if (depth < 1 || depth > 2 || moves < 1 || moves > 10) {
            throw new IllegalArgumentException();
        }
        save();
        for (int made = 0; made < moves; made++) {
            if (over()) {
                return made;
            }
            List<Integer> best = bestSequence(depth);
            if (best.isEmpty()) {
                pass();
            } else {
                put(best.get(1) / 100, best.get(1) % 100);
            }
        }
        return moves;
    }

    // ---- the state of the game

    int players() {
        return n;
    }

    int round() {
        return over() ? rounds + 1 : round;
    }

    int inTurn() {
        return turn;
    }

    int startPlayer() {
        return marker;
    }

    private void playerExists(int p) {
        if (p < 0 || p >= n) {
            throw new IndexOutOfBoundsException();
        }
    }

    private static void within(int value, int least, int most) {
        if (value < least || value > most) {
            throw new IllegalArgumentException();
        }
    }

    int goods(int p, int good) {
        playerExists(p);
        within(good, 0, 4);
        return goods[p][good];
    }

    int player(int p, int what) {
        playerExists(p);
        within(what, 0, 5);
        int mask = 0;
        for (int b = 0; b < 8; b++) {
            mask += ownerOf[b] == p ? (int) Math.pow(2, b) : 0;
        }
        return new int[] {family[p], came[p], free[p], rooms[p], begging[p], mask}[what];
    }

    int owner(int building) {
        if (building < 0 || building > 7) {
            throw new IndexOutOfBoundsException();
        }
        return ownerOf[building];
    }

    int space(int space, int what) {
        if (space < 0 || space > 11) {
            throw new IndexOutOfBoundsException();
        }
        within(what, 0, 3);
        if (what == 0) {
            return lying[space];
        }
        if (what == 2) {
            return space == 4 || space == 9 || space == 11 ? 2 : 1;
        }
        List<Integer> there = visitors.get(space);
        if (what == 1) {
            return there.size();
        }
        return there.isEmpty() ? -1 : there.get(0);
    }

    int cost(int p, int building, int good) {
        playerExists(p);
        within(building, -1, 7);
        within(good, 0, 1);
        int cost = building == -1 ? (good == 0 ? 4 : 1) : tableOf(building, good);
        if (good == 0 && ownerOf[6] == p && building != 6 && cost > 0) {
            cost--;
        }
        if (good == 1 && ownerOf[7] == p && building != 7 && cost > 0) {
            cost--;
        }
        return cost;
    }

    private static int tableOf(int building, int column) {
        return Integer.parseInt(BUILDING_TABLE[building].split(" ")[column]);
    }

    int need(int p) {
        playerExists(p);
        return 2 * (family[p] - came[p]) + came[p];
    }

    int missing(int p) {
        playerExists(p);
        return new Model(this).eat(p);
    }

    int score(int p, int part) {
        playerExists(p);
        within(part, 0, 6);
        int built = 0;
        for (int b = 0; b < 8; b++) {
            built += ownerOf[b] == p ? tableOf(b, 2) : 0;
        }
        int sheep = goods[p][3] > 5 ? 5 : goods[p][3];
        int grain = (goods[p][2] - goods[p][2] % 2) / 2;
        int[] parts = {family[p] * 3, rooms[p], sheep, grain, built, begging[p] * -3};
        return part < 6 ? parts[part] : parts[0] + parts[1] + parts[2] + parts[3] + parts[4] + parts[5];
    }

    int rank(int p) {
        playerExists(p);
        int rank = 1;
        for (int q = 0; q < n; q++) {
            boolean more = score(q, 6) > score(p, 6);
            boolean fatter = score(q, 6) == score(p, 6) && goods[q][4] > goods[p][4];
            rank += more || fatter ? 1 : 0;
        }
        return rank;
    }

    private List<Integer> options() {
        List<Integer> found = new ArrayList<>();
        for (int space = 0; space < 12; space++) {
            for (int choice = 0; choice < 30; choice++) {
                if (reason(space, choice) == 0) {
                    found.add(100 * space + choice);
                }
            }
        }
        return found;
    }

    int possible() {
        return options().size();
    }

    int option(int index) {
        List<Integer> found = options();
        if (index < 0 || index >= found.size()) {
            throw new IndexOutOfBoundsException();
        }
        return found.get(index);
    }

    // ---- search and history

    /** The result and then the placements of the best sequence; empty if there is none. */
    private List<Integer> bestSequence(int depth) {
        List<Integer> best = new ArrayList<>();
        if (over()) {
            return best;
        }
        for (int option : options()) {
            Model after = new Model(this);
            after.act(option / 100, option % 100);
            List<Integer> rest = new ArrayList<>();
            if (depth > 1 && after.free[turn] > 0) {
                rest.addAll(after.bestSequence(depth - 1));
            }
            if (rest.isEmpty()) {
                after.endRoundOf(turn);
                rest.add(after.score(turn, 6));
            }
            rest.add(1, option);
            if (best.isEmpty() || rest.get(0) > best.get(0)) {
                best = rest;
            }
        }
        return best;
    }

    int bestScore(int depth) {
        within(depth, 1, 3);
        List<Integer> best = bestSequence(depth);
        return best.isEmpty() ? -1 : best.get(0);
    }

    int bestPlacement(int depth, int index) {
        within(depth, 1, 3);
        within(index, 0, depth - 1);
        List<Integer> best = bestSequence(depth);
        return index + 1 < best.size() ? best.get(index + 1) : -1;
    }

    private List<int[]> kept() {
        return history.subList(Math.max(0, history.size() - 30), history.size());
    }

    int moves() {
        return kept().size();
    }

    int move(int index, int what) {
        if (index < 0 || index >= moves()) {
            throw new IndexOutOfBoundsException();
        }
        within(what, 0, 3);
        return kept().get(index)[what];
    }

    // ---- undo and checksum

    int undo() {
        if (saved.isEmpty()) {
            throw new IllegalStateException();
        }
        take(saved.remove(saved.size() - 1));
        return saved.size();
    }

    long digest() {
        List<Integer> values = new ArrayList<>(List.of(saved.size(), n, round(), rounds, turn, marker));
        for (int p = 0; p < n; p++) {
            for (int good = 0; good < 5; good++) {
                values.add(goods(p, good));
            }
            for (int what = 0; what < 6; what++) {
                values.add(player(p, what));
            }
            values.add(need(p));
            values.add(missing(p));
            for (int part = 0; part < 7; part++) {
                values.add(score(p, part));
            }
            values.add(rank(p));
        }
        for (int space = 0; space < 12; space++) {
            for (int what = 0; what < 4; what++) {
                values.add(space(space, what));
            }
        }
        values.addAll(List.of(possible(), bestScore(1), bestPlacement(1, 0), moves()));
        for (int index = 0; index < moves(); index++) {
            for (int what = 0; what < 4; what++) {
                values.add(move(index, what));
            }
        }
        long h = 18482;
        for (int v : values) {
            h = 31 * h + v;
        }
        return h;
    }
}
