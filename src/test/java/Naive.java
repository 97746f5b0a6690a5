import java.util.ArrayList;
import java.util.HashSet;
import java.util.List;
import java.util.NoSuchElementException;
import java.util.Set;
import java.util.TreeSet;

/** The document's words taken one by one, without any thought of speed: what OracleTest compares with. */
final class Naive {
    private static final int NONE = -1;

    int n;
    List<int[]> orders = new ArrayList<>();
    List<Integer> amounts = new ArrayList<>();
    List<Integer> tie = new ArrayList<>();
    List<Integer> agenda = new ArrayList<>();
    List<Integer> weights = new ArrayList<>();
    int changed = NONE;
    int witness = NONE;

    Naive(int candidates) {
        open(candidates);
    }

    private void open(int candidates) {
        n = candidates;
        orders.clear();
        amounts.clear();
        tie.clear();
        agenda.clear();
        weights.clear();
        for (int c = 0; c < n; c++) {
            tie.add(c);
            agenda.add(c);
            weights.add(n - 1 - c);
        }
    }

    private Naive twin() {
        Naive twin = new Naive(n);
        for (int t = 0; t < orders.size(); t++) {
            twin.orders.add(orders.get(t).clone());
            twin.amounts.add(amounts.get(t));
        }
        twin.tie = new ArrayList<>(tie);
        twin.agenda = new ArrayList<>(agenda);
        twin.weights = new ArrayList<>(weights);
        return twin;
    }

    // ---- orders

    private int[] read(int number) {
        int[] order = new int[n];
        Set<Integer> seen = new HashSet<>();
        long rest = number & 0xffffffffL;
        for (int place = 0; place < n; place++) {
            order[place] = (int) (rest % 8);
            seen.add(order[place]);
            rest /= 8;
        }
        for (int c = 0; c < n; c++) {
            if (!seen.contains(c)) {
                throw new IllegalArgumentException();
            }
        }
        if (rest != 0) {
            throw new IllegalArgumentException();
        }
        return order;
    }

    private static int write(List<Integer> order) {
        int number = 0;
        for (int place = order.size() - 1; place >= 0; place--) {
            number = 8 * number + order.get(place);
        }
        return number;
    }

    private static int[] row(List<Integer> order) {
        int[] row = new int[order.size()];
        for (int place = 0; place < row.length; place++) {
            row[place] = order.get(place);
        }
        return row;
    }

    private static List<Integer> list(int[] order) {
        List<Integer> list = new ArrayList<>();
        for (int c : order) {
            list.add(c);
        }
        return list;
    }

    private static int placeOf(int[] order, int c) {
        return list(order).indexOf(c);
    }

    /** All orders, the least by candidates at places 0, 1, 2, .. first. */
    private List<List<Integer>> allOrders() {
        List<List<Integer>> all = new ArrayList<>();
        grow(new ArrayList<>(), all);
        return all;
    }

    private void grow(List<Integer> begun, List<List<Integer>> all) {
        if (begun.size() == n) {
            all.add(new ArrayList<>(begun));
            return;
        }
        for (int c = 0; c < n; c++) {
            if (!begun.contains(c)) {
                begun.add(c);
                grow(begun, all);
                begun.remove(begun.size() - 1);
            }
        }
    }

    // ---- the ballots

    private void need(boolean there) {
        if (!there) {
            throw new NoSuchElementException();
        }
    }

    private void fits(boolean right) {
        if (!right) {
            throw new IllegalArgumentException();
        }
    }

    int candidates(int count) {
        fits(2 <= count && count <= 7);
        int before = n;
        open(count);
        return before;
    }

    int ballot(int order, int amount) {
        int[] read = read(order);
        fits(0 <= amount && amount <= 100000);
        if (orders.size() == 20) {
            throw new IllegalStateException();
        }
        orders.add(read);
        amounts.add(amount);
        return orders.size() - 1;
    }

    int amount(int type, int amount) {
        need(0 <= type && type < orders.size());
        fits(0 <= amount && amount <= 100000);
        return amounts.set(type, amount);
    }

    int drop(int type) {
        need(0 <= type && type < orders.size());
        orders.remove(type);
        amounts.remove(type);
        return orders.size();
    }

    int tieOrder(int order) {
        int[] read = read(order);
        int before = write(tie);
        tie = list(read);
        return before;
    }

    int agenda(int order) {
        int[] read = read(order);
        int before = write(agenda);
        agenda = list(read);
        return before;
    }

    int weight(int place, int weight) {
        need(0 <= place && place < n);
        fits(0 <= weight && weight <= 1000);
        return weights.set(place, weight);
    }

    // ---- rules

    private boolean isCandidate(int c) {
        return 0 <= c && c < n;
    }

    private int ahead(int a, int b) {
        int sum = 0;
        for (int t = 0; t < orders.size(); t++) {
            if (a != b && placeOf(orders.get(t), a) < placeOf(orders.get(t), b)) {
                sum += amounts.get(t);
            }
        }
        return sum;
    }

    private int[][] pairs() {
        int[][] pairs = new int[n][n];
        for (int a = 0; a < n; a++) {
            for (int b = 0; b < n; b++) {
                pairs[a][b] = ahead(a, b);
            }
        }
        return pairs;
    }

    int pair(int a, int b) {
        need(isCandidate(a) && isCandidate(b));
        return ahead(a, b);
    }

    private long at(int place, int c) {
        long sum = 0;
        for (int t = 0; t < orders.size(); t++) {
            if (orders.get(t)[place] == c) {
                sum += amounts.get(t);
            }
        }
        return sum;
    }

    private long scoreOf(int rule, int c, int[][] pairs) {
        long score = 0;
        if (rule == 0) {
            score = at(0, c);
        } else if (rule == 1) {
            score = at(n - 1, c);
        } else if (rule == 2) {
            for (int place = 0; place < n; place++) {
                score += weights.get(place) * at(place, c);
            }
        } else {
            for (int b = 0; b < n; b++) {
                if (b != c && rule == 5 && pairs[b][c] > pairs[c][b]) {
                    score = Math.max(score, pairs[b][c]);
                } else if (b != c && rule == 6) {
                    score += 1 + Integer.signum(pairs[c][b] - pairs[b][c]);
                }
            }
        }
        return score;
    }

    long score(int rule, int c) {
        need(0 <= rule && rule < 12 && isCandidate(c));
        fits(Set.of(0, 1, 2, 5, 6).contains(rule));
        return scoreOf(rule, c, pairs());
    }

    int winners(int rule) {
        need(0 <= rule && rule < 12);
        int bits = 0;
        for (int c : winnersOf(rule)) {
            bits += 1 << c;
        }
        return bits;
    }

    int winner(int rule) {
        need(0 <= rule && rule < 12);
        Set<Integer> set = winnersOf(rule);
        for (int c : tie) {
            if (set.contains(c)) {
                return c;
            }
        }
        throw new AssertionError("no winner");
    }

    private Set<Integer> winnersOf(int rule) {
        int[][] pairs = pairs();
        switch (rule) {
            case 3: return runoff(pairs);
            case 4: return elimination();
            case 7: return byPaths(pairs);
            case 8: return byLocks(pairs);
            case 9: return byAgreement(pairs);
            case 10: return uncovered(pairs);
            case 11: return byAgenda(pairs);
            default: return byScore(rule, pairs);
        }
    }

    private Set<Integer> byScore(int rule, int[][] pairs) {
        Set<Integer> set = new TreeSet<>();
        for (int a = 0; a < n; a++) {
            boolean best = true;
            for (int b = 0; b < n; b++) {
                long own = scoreOf(rule, a, pairs);
                long other = scoreOf(rule, b, pairs);
                best &= rule == 1 || rule == 5 ? own <= other : own >= other;
            }
            if (best) {
                set.add(a);
            }
        }
        return set;
    }

    private Set<Integer> runoff(int[][] pairs) {
        Set<Integer> set = new TreeSet<>();
        for (int a = 0; a < n; a++) {
            for (int b = 0; b < n; b++) {
                boolean two = a != b;
                for (int c = 0; c < n; c++) {
                    two &= c == a || c == b || (at(0, c) <= at(0, a) && at(0, c) <= at(0, b));
                }
                if (two && pairs[a][b] >= pairs[b][a]) {
                    set.add(a);
                }
            }
        }
        return set;
    }

    private Set<Integer> goers(Set<Integer> left) {
        long fewest = Long.MAX_VALUE;
        Set<Integer> goers = new TreeSet<>();
        for (int c : left) {
            long sum = 0;
            for (int t = 0; t < orders.size(); t++) {
                boolean leads = true;
                for (int other : left) {
                    leads &= placeOf(orders.get(t), c) <= placeOf(orders.get(t), other);
                }
                sum += leads ? amounts.get(t) : 0;
            }
            if (sum < fewest) {
                goers.clear();
                fewest = sum;
            }
            if (sum == fewest) {
                goers.add(c);
            }
        }
        return goers;
    }

    private Set<Integer> all() {
        return new TreeSet<>(tie);
    }

    private void eliminate(Set<Integer> left, Set<Set<Integer>> seen) {
        if (!seen.add(left) || left.size() == 1) {
            return;
        }
        for (int c : goers(left)) {
            Set<Integer> rest = new TreeSet<>(left);
            rest.remove(c);
            eliminate(rest, seen);
        }
    }

    private Set<Integer> elimination() {
        Set<Set<Integer>> seen = new HashSet<>();
        eliminate(all(), seen);
        Set<Integer> set = new TreeSet<>();
        for (Set<Integer> left : seen) {
            if (left.size() == 1) {
                set.addAll(left);
            }
        }
        return set;
    }

    int branches() {
        Set<Set<Integer>> seen = new HashSet<>();
        eliminate(all(), seen);
        return seen.size();
    }

    int step(int k) {
        need(0 <= k && k < n);
        Set<Integer> left = all();
        List<Integer> gone = new ArrayList<>();
        while (left.size() > 1) {
            int last = NONE;
            for (int c : goers(left)) {
                if (last == NONE || tie.indexOf(c) > tie.indexOf(last)) {
                    last = c;
                }
            }
            gone.add(last);
            left.remove(last);
        }
        gone.addAll(left);
        return gone.get(k);
    }

    private int strongest(int[][] pairs, int from, int to, Set<Integer> used, int soFar) {
        if (from == to) {
            return soFar;
        }
        int best = 0;
        for (int next = 0; next < n; next++) {
            if (!used.contains(next) && pairs[from][next] > pairs[next][from]) {
                Set<Integer> more = new HashSet<>(used);
                more.add(next);
                best = Math.max(best, strongest(pairs, next, to, more, Math.min(soFar, pairs[from][next])));
            }
        }
        return best;
    }

    private int path(int[][] pairs, int a, int b) {
        return a == b ? 0 : strongest(pairs, a, b, Set.of(a), Integer.MAX_VALUE);
    }

    int path(int a, int b) {
        need(isCandidate(a) && isCandidate(b));
        return path(pairs(), a, b);
    }

    private Set<Integer> byPaths(int[][] pairs) {
        Set<Integer> set = all();
        for (int a = 0; a < n; a++) {
            for (int b = 0; b < n; b++) {
                if (path(pairs, a, b) < path(pairs, b, a)) {
                    set.remove(a);
                }
            }
        }
        return set;
    }

    private Set<Integer> byLocks(int[][] pairs) {
        List<int[]> steps = new ArrayList<>();
        for (int a = 0; a < n; a++) {
            for (int b = 0; b < n; b++) {
                if (pairs[a][b] > pairs[b][a]) {
                    steps.add(new int[] {a, b});
                }
            }
        }
        steps.sort((x, y) -> {
            int byVoters = Integer.compare(pairs[y[0]][y[1]], pairs[x[0]][x[1]]);
            int byFirst = Integer.compare(tie.indexOf(x[0]), tie.indexOf(y[0]));
            int bySecond = Integer.compare(tie.indexOf(x[1]), tie.indexOf(y[1]));
            return byVoters != 0 ? byVoters : byFirst != 0 ? byFirst : bySecond;
        });
        boolean[][] locked = new boolean[n][n];
        Set<Integer> set = all();
        for (int[] step : steps) {
            if (!leads(locked, step[1], step[0], new HashSet<>())) {
                locked[step[0]][step[1]] = true;
                set.remove(step[1]);
            }
        }
        return set;
    }

    private boolean leads(boolean[][] locked, int from, int to, Set<Integer> seen) {
        if (from == to) {
            return true;
        }
        seen.add(from);
        for (int next = 0; next < n; next++) {
            if (locked[from][next] && !seen.contains(next) && leads(locked, next, to, seen)) {
                return true;
            }
        }
        return false;
    }

    private long disagreementOf(List<Integer> order, int[][] pairs) {
        long sum = 0;
        for (int i = 0; i < n; i++) {
            for (int j = i + 1; j < n; j++) {
                sum += pairs[order.get(j)][order.get(i)];
            }
        }
        return sum;
    }

    private List<List<Integer>> bestOrders(int[][] pairs) {
        List<List<Integer>> best = new ArrayList<>();
        long least = Long.MAX_VALUE;
        for (List<Integer> order : allOrders()) {
            long own = disagreementOf(order, pairs);
            if (own < least) {
                best.clear();
                least = own;
            }
            if (own == least) {
                best.add(order);
            }
        }
        return best;
    }

    private Set<Integer> byAgreement(int[][] pairs) {
        Set<Integer> set = new TreeSet<>();
        for (List<Integer> order : bestOrders(pairs)) {
            set.add(order.get(0));
        }
        return set;
    }

    long disagreement() {
        int[][] pairs = pairs();
        return disagreementOf(bestOrders(pairs).get(0), pairs);
    }

    int agreed() {
        List<List<Integer>> best = bestOrders(pairs());
        best.sort((x, y) -> {
            for (int place = 0; place < n; place++) {
                int order = Integer.compare(tie.indexOf(x.get(place)), tie.indexOf(y.get(place)));
                if (order != 0) {
                    return order;
                }
            }
            return 0;
        });
        return write(best.get(0));
    }

    private Set<Integer> uncovered(int[][] pairs) {
        Set<Integer> set = all();
        for (int a = 0; a < n; a++) {
            for (int b = 0; b < n; b++) {
                boolean covers = pairs[a][b] > pairs[b][a];
                for (int c = 0; c < n; c++) {
                    covers &= pairs[b][c] <= pairs[c][b] || pairs[a][c] > pairs[c][a];
                }
                if (covers) {
                    set.remove(b);
                }
            }
        }
        return set;
    }

    private Set<Integer> byAgenda(int[][] pairs) {
        int stays = agenda.get(0);
        for (int next : agenda.subList(1, n)) {
            int margin = pairs[next][stays] - pairs[stays][next];
            if (margin > 0 || (margin == 0 && tie.indexOf(next) < tie.indexOf(stays))) {
                stays = next;
            }
        }
        return Set.of(stays);
    }

    // ---- what could be

    int change(int rule, int type, int size) {
        need(0 <= rule && rule < 12 && 0 <= type && type < orders.size());
        fits(1 <= size && size <= amounts.get(type));
        int[] own = orders.get(type);
        int now = placeOf(own, winner(rule));
        int best = n;
        int by = NONE;
        for (List<Integer> order : allOrders()) {
            Naive other = twin();
            other.amounts.set(type, amounts.get(type) - size);
            other.orders.add(row(order));
            other.amounts.add(size);
            int place = placeOf(own, other.winner(rule));
            if (place < best) {
                best = place;
                by = write(order);
            }
        }
        changed = best < now ? by : NONE;
        return best < now ? best + 1 : 0;
    }

    boolean property(int rule, int property) {
        need(0 <= rule && rule < 12 && 0 <= property && property < 5);
        witness = NONE;
        int last = property == 2 || property == 3 ? orders.size() : n;
        for (int breaker = last - 1; breaker >= 0; breaker--) {
            if (breaks(rule, property, breaker)) {
                witness = breaker;
            }
        }
        return witness == NONE;
    }

    private boolean breaks(int rule, int property, int breaker) {
        Set<Integer> winners = winnersOf(rule);
        int w = winner(rule);
        switch (property) {
            case 0: return beatsOf(breaker, 1) == n - 1 && !winners.equals(Set.of(breaker));
            case 1: return beatsOf(breaker, -1) == n - 1 && winners.contains(breaker);
            case 2: return raised(breaker, w).winner(rule) != w;
            case 3: return orders.get(breaker)[0] == w && joined(breaker).winner(rule) != w;
            default:
                if (winners.contains(breaker) || n == 2) {
                    return false;
                }
                return without(breaker).winner(rule) != (w > breaker ? w - 1 : w);
        }
    }

    /** How many it beats (sign 1), or how many beat it (sign -1). */
    private int beatsOf(int a, int sign) {
        int count = 0;
        for (int b = 0; b < n; b++) {
            count += a != b && Integer.signum(ahead(a, b) - ahead(b, a)) == sign ? 1 : 0;
        }
        return count;
    }

    private Naive raised(int type, int w) {
        Naive other = twin();
        int[] order = other.orders.get(type);
        int place = placeOf(order, w);
        if (place > 0) {
            order[place] = order[place - 1];
            order[place - 1] = w;
        }
        return other;
    }

    private Naive joined(int type) {
        Naive other = twin();
        other.amounts.set(type, amounts.get(type) + 1);
        return other;
    }

    private static List<Integer> without(List<Integer> order, int c) {
        List<Integer> rest = new ArrayList<>();
        for (int other : order) {
            if (other != c) {
                rest.add(other > c ? other - 1 : other);
            }
        }
        return rest;
    }

    private Naive without(int c) {
        Naive other = new Naive(n - 1);
        for (int t = 0; t < orders.size(); t++) {
            other.orders.add(row(without(list(orders.get(t)), c)));
            other.amounts.add(amounts.get(t));
        }
        other.tie = without(tie, c);
        other.agenda = without(agenda, c);
        other.weights = new ArrayList<>(weights.subList(0, n - 1));
        return other;
    }

    int circle(int k) {
        need(0 <= k && k < 3);
        int[][] pairs = pairs();
        for (int abc = 0; abc < n * n * n; abc++) {
            int[] member = {abc / (n * n), abc / n % n, abc % n};
            boolean round = true;
            for (int i = 0; i < 3; i++) {
                int from = member[i];
                int to = member[(i + 1) % 3];
                round &= pairs[from][to] > pairs[to][from];
            }
            if (round) {
                return member[k];
            }
        }
        return NONE;
    }

    boolean clones(int set) {
        Set<Integer> members = new TreeSet<>();
        for (int bit = 0; bit < 32; bit++) {
            if ((set >>> bit) % 2 == 1) {
                fits(isCandidate(bit));
                members.add(bit);
            }
        }
        fits(members.size() >= 2);
        for (int t = 0; t < orders.size(); t++) {
            int blocks = 0;
            for (int place = 0; place < n; place++) {
                boolean in = members.contains(orders.get(t)[place]);
                boolean before = place > 0 && members.contains(orders.get(t)[place - 1]);
                blocks += in && !before ? 1 : 0;
            }
            if (amounts.get(t) > 0 && blocks != 1) {
                return false;
            }
        }
        return true;
    }

    int count(int what) {
        fits(0 <= what && what <= 2);
        int voters = 0;
        for (int amount : amounts) {
            voters += amount;
        }
        return what == 0 ? n : what == 1 ? orders.size() : voters;
    }
}
