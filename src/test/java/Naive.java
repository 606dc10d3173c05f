import java.util.ArrayDeque;
import java.util.ArrayList;
import java.util.Arrays;
import java.util.Deque;
import java.util.List;

/**
 * The document said again in the slowest and plainest way, by listing what it speaks of: paths, cycles,
 * orders, chains and assignments. It shares no idea with the class beyond the document's words.
 */
final class Naive {
    private record State(boolean[][] wins, int[][] weights) {
        State copy() {
            boolean[][] w = new boolean[wins.length][];
            int[][] g = new int[wins.length][];
            for (int i = 0; i < wins.length; i++) {
                w[i] = wins[i].clone();
                g[i] = weights[i].clone();
            }
            return new State(w, g);
        }
    }

    private State now = initial(4);
    private State kept = initial(4);
    private final Deque<State> history = new ArrayDeque<>();
    private final List<Integer> numbers = new ArrayList<>();
    private String text = "";

    private static State initial(int n) {
        boolean[][] wins = new boolean[n][n];
        int[][] weights = new int[n][n];
        for (int a = 0; a < n; a++) {
            for (int b = 0; b < n; b++) {
                wins[a][b] = a < b;
                weights[a][b] = 1;
            }
        }
        return new State(wins, weights);
    }

    private int n() {
        return now.wins.length;
    }

    private boolean no(int player) {
        return player < 0 || player >= n();
    }

    private boolean noPair(int a, int b) {
        return no(a) || no(b) || a == b;
    }

    private void record() {
        history.addLast(now.copy());
        if (history.size() > 8) {
            history.removeFirst();
        }
    }

    private void result(int winner, int loser) {
        now.wins[winner][loser] = true;
        now.wins[loser][winner] = false;
    }

    int reset(int players) {
        if (players < 2 || players > 10) {
            return -1;
        }
        int before = n();
        record();
        now = initial(players);
        return before;
    }

    int setResult(int winner, int loser) {
        if (noPair(winner, loser)) {
            return -1;
        }
        int before = now.wins[winner][loser] ? 1 : 0;
        record();
        result(winner, loser);
        return before;
    }

    int setWeight(int a, int b, int weight) {
        if (noPair(a, b) || weight < 1 || weight > 100) {
            return -1;
        }
        int before = now.weights[a][b];
        record();
        now.weights[a][b] = weight;
        now.weights[b][a] = weight;
        return before;
    }

    private boolean isTriangle(int a, int b, int c) {
        boolean[][] w = now.wins;
        return w[a][b] && w[b][c] && w[c][a] || w[a][c] && w[c][b] && w[b][a];
    }

    private void turn(int a, int b) {
        if (now.wins[a][b]) {
            result(b, a);
        } else {
            result(a, b);
        }
    }

    int reverseTriangle(int a, int b, int c) {
        if (noPair(a, b) || noPair(b, c) || noPair(a, c)) {
            return -1;
        }
        if (!isTriangle(a, b, c)) {
            return -2;
        }
        record();
        turn(a, b);
        turn(b, c);
        turn(c, a);
        return triangles();
    }

    /** The least path with just this many steps, or null. */
    private int[] leastPath(int from, int to, int steps) {
        int[] path = new int[steps + 1];
        path[0] = from;
        return walk(path, 1, to) ? path : null;
    }

    private boolean walk(int[] path, int depth, int to) {
        int last = path[depth - 1];
        if (depth == path.length) {
            return last == to;
        }
        for (int next = 0; next < n(); next++) {
            if (now.wins[last][next] && !among(path, depth, next)) {
                path[depth] = next;
                if (walk(path, depth + 1, to)) {
                    return true;
                }
            }
        }
        return false;
    }

    private static boolean among(int[] path, int depth, int player) {
        for (int i = 0; i < depth; i++) {
            if (path[i] == player) {
                return true;
            }
        }
        return false;
    }

    private int[] shortest(int from, int to) {
        for (int steps = 0; steps < n(); steps++) {
            int[] path = leastPath(from, to, steps);
            if (path != null) {
                return path;
            }
        }
        return null;
    }

    int reversePath(int from, int to) {
        if (noPair(from, to)) {
            return -1;
        }
        int[] path = shortest(from, to);
        if (path == null) {
            return -2;
        }
        record();
        for (int i = 0; i + 1 < path.length; i++) {
            result(path[i + 1], path[i]);
        }
        return path.length - 1;
    }

    int reversePlayer(int player) {
        if (no(player)) {
            return -1;
        }
        record();
        for (int other = 0; other < n(); other++) {
            if (other != player) {
                turn(player, other);
            }
        }
        return score(player);
    }

    int exchange(int a, int b) {
        if (no(a) || no(b)) {
            return -1;
        }
        record();
        State old = now.copy();
        for (int p = 0; p < n(); p++) {
            for (int q = 0; q < n(); q++) {
                int from = p == a ? b : p == b ? a : p;
                int to = q == a ? b : q == b ? a : q;
                now.wins[p][q] = old.wins[from][to];
                now.weights[p][q] = old.weights[from][to];
            }
        }
        return score(a);
    }

    int construct() {
        if (checkSequence() != 0) {
            return -2;
        }
        record();
        int m = numbers.size();
        now = initial(m);
        int[] rest = new int[m];
        List<Integer> left = new ArrayList<>();
        for (int i = 0; i < m; i++) {
            rest[i] = numbers.get(i);
            left.add(i);
        }
        while (!left.isEmpty()) {
            int p = left.stream().max((x, y) -> rest[x] != rest[y] ? rest[x] - rest[y] : x - y).get();
            left.remove((Integer) p);
            List<Integer> byRest = new ArrayList<>(left);
            byRest.sort((x, y) -> rest[x] != rest[y] ? rest[x] - rest[y] : x - y);
            for (int i = 0; i < byRest.size(); i++) {
                if (i < rest[p]) {
                    result(p, byRest.get(i));
                } else {
                    result(byRest.get(i), p);
                    rest[byRest.get(i)]--;
                }
            }
        }
        return m;
    }

    int enter() {
        if (fault() != -4) {
            return -2;
        }
        record();
        int count = 0;
        for (String result : text.split(";")) {
            if (!result.isEmpty()) {
                int a = result.charAt(0) - '0';
                int b = result.charAt(2) - '0';
                result(result.charAt(1) == '>' ? a : b, result.charAt(1) == '>' ? b : a);
                count++;
            }
        }
        return count;
    }

    int recall() {
        record();
        now = kept.copy();
        return n();
    }

    int undo() {
        if (history.isEmpty()) {
            return -2;
        }
        now = history.removeLast();
        return history.size();
    }

    int append(int score) {
        if (score < 0 || score > 9) {
            return -1;
        }
        if (numbers.size() == 10) {
            return -3;
        }
        numbers.add(score);
        return numbers.size();
    }

    int clearSequence() {
        int before = numbers.size();
        numbers.clear();
        return before;
    }

    int checkSequence() {
        int m = numbers.size();
        if (m < 2) {
            return -2;
        }
        List<Integer> sorted = new ArrayList<>(numbers);
        sorted.sort(null);
        int sum = 0;
        for (int k = 1; k <= m; k++) {
            sum += sorted.get(k - 1);
            if (k < m ? sum < k * (k - 1) / 2 : sum != k * (k - 1) / 2) {
                return k;
            }
        }
        return 0;
    }

    int type(int character) {
        if (character < 32 || character > 126) {
            return -1;
        }
        if (text.length() == 120) {
            return -3;
        }
        text = text + (char) character;
        return text.length();
    }

    int clearText() {
        int before = text.length();
        text = "";
        return before;
    }

    int fault() {
        int at = 0;
        while (at < text.length()) {
            String part = text.substring(at, Math.min(at + 4, text.length()));
            if (!part.matches("[0-9][<>][0-9];") || noPair(part.charAt(0) - '0', part.charAt(2) - '0')) {
                return at;
            }
            at += 4;
        }
        return -4;
    }

    int players() {
        return n();
    }

    int beats(int a, int b) {
        return no(a) || no(b) ? -1 : now.wins[a][b] ? 1 : 0;
    }

    int weight(int a, int b) {
        return noPair(a, b) ? -1 : now.weights[a][b];
    }

    int score(int player) {
        if (no(player)) {
            return -1;
        }
        int count = 0;
        for (int other = 0; other < n(); other++) {
            count += now.wins[player][other] ? 1 : 0;
        }
        return count;
    }

    int scoreAt(int place) {
        if (no(place)) {
            return -1;
        }
        int[] scores = new int[n()];
        for (int p = 0; p < n(); p++) {
            scores[p] = score(p);
        }
        Arrays.sort(scores);
        return scores[place];
    }

    int triangles() {
        int count = 0;
        for (int a = 0; a < n(); a++) {
            for (int b = a + 1; b < n(); b++) {
                for (int c = b + 1; c < n(); c++) {
                    count += isTriangle(a, b, c) ? 1 : 0;
                }
            }
        }
        return count;
    }

    int distance(int from, int to) {
        if (no(from) || no(to)) {
            return -1;
        }
        int[] path = shortest(from, to);
        return path == null ? -4 : path.length - 1;
    }

    private boolean[][] reach() {
        boolean[][] reach = new boolean[n()][n()];
        for (int a = 0; a < n(); a++) {
            for (int b = 0; b < n(); b++) {
                reach[a][b] = a == b || now.wins[a][b];
            }
        }
        for (int k = 0; k < n(); k++) {
            for (int a = 0; a < n(); a++) {
                for (int b = 0; b < n(); b++) {
                    reach[a][b] |= reach[a][k] && reach[k][b];
                }
            }
        }
        return reach;
    }

    int components() {
        int most = 0;
        for (int p = 0; p < n(); p++) {
            most = Math.max(most, componentOf(p));
        }
        return most + 1;
    }

    /** The number of components whose players reach this one without being reached. */
    int componentOf(int player) {
        if (no(player)) {
            return -1;
        }
        boolean[][] reach = reach();
        int number = 0;
        for (int p = 0; p < n(); p++) {
            boolean leastOfItsOwn = true;
            for (int q = 0; q < p; q++) {
                leastOfItsOwn &= !(reach[p][q] && reach[q][p]);
            }
            number += leastOfItsOwn && reach[p][player] && !reach[player][p] ? 1 : 0;
        }
        return number;
    }

    int spanningPaths() {
        int count = 0;
        for (int first = 0; first < n(); first++) {
            count += pathsOn(first, 1 << first);
        }
        return count;
    }

    private int pathsOn(int last, int used) {
        if (used == (1 << n()) - 1) {
            return 1;
        }
        int count = 0;
        for (int next = 0; next < n(); next++) {
            if ((used >> next & 1) == 0 && now.wins[last][next]) {
                count += pathsOn(next, used | 1 << next);
            }
        }
        return count;
    }

    int pathAt(int place) {
        if (no(place)) {
            return -1;
        }
        int[] path = new int[n()];
        return span(path, 0) ? path[place] : -99;
    }

    /** The first spanning path found is the least one, for the lowest players are tried first. */
    private boolean span(int[] path, int depth) {
        if (depth == n()) {
            return true;
        }
        for (int next = 0; next < n(); next++) {
            if (!among(path, depth, next) && (depth == 0 || now.wins[path[depth - 1]][next])) {
                path[depth] = next;
                if (span(path, depth + 1)) {
                    return true;
                }
            }
        }
        return false;
    }

    int cycleAt(int player, int length, int place) {
        if (no(player) || length < 3 || length > n() || place < 0 || place >= length) {
            return -1;
        }
        int[] cycle = leastCycle(player, length);
        return cycle == null ? -4 : cycle[place];
    }

    private int[] leastCycle(int player, int length) {
        int[] cycle = new int[length];
        cycle[0] = player;
        return close(cycle, 1) ? cycle : null;
    }

    private boolean close(int[] cycle, int depth) {
        int last = cycle[depth - 1];
        if (depth == cycle.length) {
            return now.wins[last][cycle[0]];
        }
        for (int next = 0; next < n(); next++) {
            if (now.wins[last][next] && !among(cycle, depth, next)) {
                cycle[depth] = next;
                if (close(cycle, depth + 1)) {
                    return true;
                }
            }
        }
        return false;
    }

    int cycleLengths(int player) {
        if (no(player)) {
            return -1;
        }
        int count = 0;
        for (int length = 3; length <= n(); length++) {
            count += leastCycle(player, length) != null ? 1 : 0;
        }
        return count;
    }

    private int best;
    private int[] bestOrder;
    private int bestFirsts;

    /** Looks at all orders in ascending order, but for those whose beginning alone costs too much. */
    private void searchOrders() {
        best = Integer.MAX_VALUE;
        bestOrder = null;
        bestFirsts = 0;
        searchOrders(new int[n()], 0, 0);
    }

    private void searchOrders(int[] order, int depth, int cost) {
        if (cost > best) {
            return;
        }
        if (depth == n()) {
            bestFirsts = cost < best ? 0 : bestFirsts;
            bestFirsts |= 1 << order[0];
            if (cost < best) {
                best = cost;
                bestOrder = order.clone();
            }
            return;
        }
        for (int next = 0; next < n(); next++) {
            if (!among(order, depth, next)) {
                int more = 0;
                for (int i = 0; i < depth; i++) {
                    more += now.wins[next][order[i]] ? now.weights[next][order[i]] : 0;
                }
                order[depth] = next;
                searchOrders(order, depth + 1, cost + more);
            }
        }
    }

    int leastCost() {
        searchOrders();
        return best;
    }

    int orderAt(int place) {
        if (no(place)) {
            return -1;
        }
        searchOrders();
        return bestOrder[place];
    }

    int winners(int rule) {
        if (rule < 0 || rule > 4) {
            return -1;
        }
        if (rule == 3) {
            return chainTops();
        }
        if (rule == 4) {
            searchOrders();
            return bestFirsts;
        }
        int set = 0;
        for (int p = 0; p < n(); p++) {
            boolean in = rule == 0 ? componentOf(p) == 0 : rule == 1 ? isKing(p) : score(p) == scoreAt(n() - 1);
            set |= in ? 1 << p : 0;
        }
        return set;
    }

    private boolean isKing(int player) {
        for (int other = 0; other < n(); other++) {
            if (other != player && leastPath(player, other, 1) == null && leastPath(player, other, 2) == null) {
                return false;
            }
        }
        return true;
    }

    private int chainTops() {
        int tops = 0;
        for (int set = 1; set < 1 << n(); set++) {
            int top = topOfChain(set);
            boolean extended = false;
            for (int p = 0; p < n(); p++) {
                extended |= winsIn(p, set) == Integer.bitCount(set);
            }
            tops |= top >= 0 && !extended ? 1 << top : 0;
        }
        return tops;
    }

    private int winsIn(int player, int set) {
        int wins = 0;
        for (int q = 0; q < n(); q++) {
            wins += (set >> q & 1) != 0 && now.wins[player][q] ? 1 : 0;
        }
        return wins;
    }

    /** The first player of the set as a chain, or -1: a set is a chain if its scores are 0, 1, 2, ... */
    private int topOfChain(int set) {
        int seen = 0;
        int top = -1;
        for (int p = 0; p < n(); p++) {
            if ((set >> p & 1) != 0) {
                seen |= 1 << winsIn(p, set);
                top = winsIn(p, set) == Integer.bitCount(set) - 1 ? p : top;
            }
        }
        return seen == (1 << Integer.bitCount(set)) - 1 ? top : -1;
    }

    int undisputed() {
        return Integer.bitCount(winners(0) & winners(1) & winners(2) & winners(3) & winners(4));
    }

    int store() {
        kept = now.copy();
        return n();
    }

    private int differs(int a, int b) {
        return now.wins[a][b] != kept.wins[a][b] ? 1 : 0;
    }

    int difference() {
        if (n() != kept.wins.length) {
            return -2;
        }
        int count = 0;
        for (int a = 0; a < n(); a++) {
            for (int b = a + 1; b < n(); b++) {
                count += differs(a, b);
            }
        }
        return count;
    }

    int isLikeStored() {
        return n() == kept.wins.length && assign(new int[n()], 0) ? 1 : 0;
    }

    private boolean assign(int[] images, int depth) {
        if (depth == n()) {
            return true;
        }
        for (int image = 0; image < n(); image++) {
            if (!among(images, depth, image)) {
                images[depth] = image;
                boolean fits = true;
                for (int i = 0; i < depth; i++) {
                    fits &= now.wins[i][depth] == kept.wins[images[i]][image];
                }
                if (fits && assign(images, depth + 1)) {
                    return true;
                }
            }
        }
        return false;
    }

    int towardsStored() {
        if (n() != kept.wins.length) {
            return -2;
        }
        for (int abc = 12; abc <= 789; abc++) {
            int a = abc / 100;
            int b = abc / 10 % 10;
            int c = abc % 10;
            boolean three = a < b && b < c && c < n();
            if (three && isTriangle(a, b, c) && differs(a, b) + differs(b, c) + differs(a, c) >= 2) {
                return abc;
            }
        }
        return -4;
    }
}
