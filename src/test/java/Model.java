import java.math.BigInteger;
import java.util.ArrayList;
import java.util.Arrays;
import java.util.HashMap;
import java.util.List;
import java.util.Map;

/** The town once more, in the slowest and plainest way, straight from the document's words. */
final class Model {
    static final int EVEN = -5, SHUT = -6, NONE = -9;

    final int people;
    final int matters;
    final char[] kind;
    final boolean[][] wish;
    int measure;
    int law;
    List<Integer> agenda = new ArrayList<>();

    /** Who sits, in no order; null: shut. */
    static final class Now {
        final List<Integer> sitting;
        final int last;

        Now(List<Integer> sitting, int last) {
            this.sitting = sitting;
            this.last = last;
        }

        String name(int law) {
            return (sitting == null ? "shut" : new java.util.TreeSet<>(sitting).toString()) + (law == 2 ? " " + last : "");
        }
    }

    static final class Vote {
        int matter;
        int sits;
        int yes;
        int decided;
        int seats;
        Now behind;
    }

    Model(String text) {
        String[] parts = text.split(";");
        matters = parts[0].charAt(1) - '0';
        people = parts.length - 1;
        kind = new char[people];
        wish = new boolean[people][matters];
        for (int x = 0; x < people; x++) {
            kind[x] = parts[x + 1].charAt(0);
            for (int m = 0; m < matters; m++) {
                wish[x][m] = parts[x + 1].charAt(m + 1) == 'y';
            }
        }
        for (int m = 0; m < matters; m++) {
            agenda.add(m);
        }
    }

    List<Integer> all() {
        List<Integer> list = new ArrayList<>();
        for (int x = 0; x < people; x++) {
            list.add(x);
        }
        return list;
    }

    Now first() {
        return new Now(all(), people - 1);
    }

    static int set(Iterable<Integer> list) {
        int set = 0;
        for (int x : list) {
            set |= 1 << x;
        }
        return set;
    }

    static List<Integer> list(int set) {
        List<Integer> list = new ArrayList<>();
        for (int x = 0; x < 8; x++) {
            if ((set >> x & 1) == 1) {
                list.add(x);
            }
        }
        return list;
    }

    /** told: what those of a faction say, by number; they are not in it, if they are as told. */
    Vote vote(Now now, int matter, Map<Integer, Boolean> told) {
        Vote v = new Vote();
        v.matter = matter;
        if (now.sitting == null) {
            v.decided = SHUT;
            v.seats = people;
            v.behind = new Now(all(), now.last);
            return v;
        }
        v.sits = set(now.sitting);
        List<Integer> saidYes = new ArrayList<>();
        List<Integer> saidNo = new ArrayList<>();
        for (int x = 0; x < people; x++) {
            if (!now.sitting.contains(x)) {
                continue;
            }
            boolean says = wish[x][matter];
            if (told.containsKey(x)) {
                says = told.get(x);
            } else if (kind[x] == 'f' && saidYes.size() != saidNo.size()) {
                says = saidYes.size() > saidNo.size();
            } else if (kind[x] == 'c' && saidYes.size() != saidNo.size()) {
                says = saidYes.size() < saidNo.size();
            }
            (says ? saidYes : saidNo).add(x);
        }
        v.yes = set(saidYes);
        boolean even = saidYes.size() == saidNo.size();
        boolean yesWon = saidYes.size() > saidNo.size();
        v.decided = even ? EVEN : yesWon ? 1 : 0;
        List<Integer> winners = yesWon ? saidYes : saidNo;
        List<Integer> losers = yesWon ? saidNo : saidYes;
        int by = winners.size() - losers.size();
        int seats = new int[] {by, winners.size(), losers.size(), 2 * by}[measure];
        seats = even ? 0 : Math.min(seats, people);
        v.seats = seats;
        v.behind = seats == 0 ? new Now(null, now.last) : seat(now, winners, losers, seats);
        return v;
    }

    private Now seat(Now now, List<Integer> winners, List<Integer> losers, int seats) {
        List<Integer> queue = new ArrayList<>();
        if (law == 0) {
            queue.addAll(all());
        } else if (law == 1) {
            queue.addAll(winners);
            queue.addAll(losers);
            List<Integer> others = all();
            others.removeAll(queue);
            queue.addAll(others);
        } else {
            for (int step = 1; step <= people; step++) {
                queue.add((now.last + step) % people);
            }
        }
        List<Integer> seated = new ArrayList<>(queue.subList(0, seats));
        return new Now(seated, seated.get(seats - 1));
    }

    List<Vote> run(Now from, List<Integer> row) {
        List<Vote> votes = new ArrayList<>();
        Now now = from;
        for (int matter : row) {
            Vote v = vote(now, matter, Map.of());
            votes.add(v);
            now = v.behind;
        }
        return votes;
    }

    List<Vote> run() {
        return run(first(), agenda);
    }

    int decided(int matter) {
        for (Vote v : run()) {
            if (v.matter == matter) {
                return v.decided;
            }
        }
        return NONE;
    }

    int sits() {
        List<Vote> votes = run();
        Now behind = votes.get(votes.size() - 1).behind;
        return behind.sitting == null ? SHUT : set(behind.sitting);
    }

    /** tail, ring, then for each matter how often it is won by yes in the ring. */
    int[] ever() {
        int[] answer = new int[2 + matters];
        Map<String, Integer> begun = new HashMap<>();
        List<List<Vote>> runs = new ArrayList<>();
        Now now = first();
        while (!begun.containsKey(now.name(law))) {
            begun.put(now.name(law), runs.size());
            List<Vote> votes = run(now, agenda);
            runs.add(votes);
            now = votes.get(votes.size() - 1).behind;
        }
        answer[0] = begun.get(now.name(law));
        answer[1] = runs.size() - answer[0];
        for (List<Vote> votes : runs.subList(answer[0], runs.size())) {
            for (Vote v : votes) {
                answer[2 + v.matter] += v.decided == 1 ? 1 : 0;
            }
        }
        return answer;
    }

    int sway(int set, int want) {
        int best = sway(first(), 0, list(set), want);
        return best > 1000 ? NONE : best;
    }

    private int sway(Now now, int q, List<Integer> faction, int want) {
        int best = 1_000_000;
        List<Integer> choosers = new ArrayList<>(faction);
        choosers.retainAll(now.sitting == null ? List.of() : now.sitting);
        for (int choice = 0; choice < 1 << choosers.size(); choice++) {
            Map<Integer, Boolean> told = new HashMap<>();
            int cost = 0;
            for (int c = 0; c < choosers.size(); c++) {
                boolean says = (choice >> c & 1) == 1;
                told.put(choosers.get(c), says);
                cost += says != wish[choosers.get(c)][agenda.get(q)] ? 1 : 0;
            }
            Vote v = vote(now, agenda.get(q), told);
            if (q < agenda.size() - 1) {
                best = Math.min(best, cost + sway(v.behind, q + 1, faction, want));
            } else if (v.decided == want) {
                best = Math.min(best, cost);
            }
        }
        return best;
    }

    /** All orders of the agenda's matters, by their numbers. */
    List<List<Integer>> allOrders() {
        List<Integer> sorted = new ArrayList<>(agenda);
        sorted.sort(null);
        List<List<Integer>> rows = new ArrayList<>();
        grow(new ArrayList<>(), sorted, rows);
        return rows;
    }

    private static void grow(List<Integer> row, List<Integer> left, List<List<Integer>> rows) {
        if (left.isEmpty()) {
            rows.add(row);
        }
        for (Integer m : left) {
            List<Integer> longer = new ArrayList<>(row);
            longer.add(m);
            List<Integer> rest = new ArrayList<>(left);
            rest.remove(m);
            grow(longer, rest, rows);
        }
    }

    List<List<Integer>> orders(int matter) {
        List<List<Integer>> good = new ArrayList<>();
        for (List<Integer> row : allOrders()) {
            if (run(first(), row).get(row.indexOf(matter)).decided == 1) {
                good.add(row);
            }
        }
        return good;
    }

    int[] key() {
        int[] best = {0, 0};
        List<Vote> plain = run();
        for (int x = 0; x < people; x++) {
            turn(x);
            List<Vote> other = run();
            turn(x);
            int changed = 0;
            for (int q = 0; q < plain.size(); q++) {
                changed += plain.get(q).decided != other.get(q).decided ? 1 : 0;
            }
            if (changed > best[1]) {
                best = new int[] {x, changed};
            }
        }
        return best;
    }

    private void turn(int x) {
        for (int m = 0; m < matters; m++) {
            wish[x][m] = !wish[x][m];
        }
    }

    /** Upper and lower number; by seats and place on the agenda, kept in memo. */
    long[] lot() {
        BigInteger[] share = lot(people, 0, new HashMap<>());
        return new long[] {share[0].longValueExact(), share[1].longValueExact()};
    }

    private BigInteger[] lot(int seats, int q, Map<String, BigInteger[]> memo) {
        String name = seats + "/" + q;
        if (memo.containsKey(name)) {
            return memo.get(name);
        }
        BigInteger[] sum = {BigInteger.ZERO, BigInteger.ONE};
        int sets = 0;
        for (int set = 0; set < 1 << people; set++) {
            if (Integer.bitCount(set) == seats) {
                sets++;
                Vote v = vote(new Now(seats == 0 ? null : list(set), 0), agenda.get(q), Map.of());
                BigInteger[] part = {v.decided == 1 ? BigInteger.ONE : BigInteger.ZERO, BigInteger.ONE};
                if (q < agenda.size() - 1) {
                    part = lot(v.seats, q + 1, memo);
                }
                sum = least(sum[0].multiply(part[1]).add(part[0].multiply(sum[1])), sum[1].multiply(part[1]));
            }
        }
        sum = least(sum[0], sum[1].multiply(BigInteger.valueOf(sets)));
        memo.put(name, sum);
        return sum;
    }

    private static BigInteger[] least(BigInteger upper, BigInteger lower) {
        BigInteger common = upper.gcd(lower);
        return new BigInteger[] {upper.divide(common), lower.divide(common)};
    }

    int fits(int[] told) {
        return rulesBy(told);
    }

    int safe() {
        return rulesBy(null);
    }

    /** told null: rules by which no order shuts the hall; else those that give such seats. */
    private int rulesBy(int[] told) {
        int oldMeasure = measure;
        int oldLaw = law;
        int set = 0;
        for (int rule = 0; rule < 12; rule++) {
            measure = rule / 3;
            law = rule % 3;
            boolean good = told == null ? neverShut() : Arrays.equals(seats(), told);
            set |= good ? 1 << rule : 0;
        }
        measure = oldMeasure;
        law = oldLaw;
        return set;
    }

    int[] seats() {
        return run().stream().mapToInt(v -> v.seats).toArray();
    }

    private boolean neverShut() {
        for (List<Integer> row : allOrders()) {
            for (Vote v : run(first(), row)) {
                if (v.behind.sitting == null) {
                    return false;
                }
            }
        }
        return true;
    }
}
