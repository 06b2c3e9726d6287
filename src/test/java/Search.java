import java.util.HashMap;
import java.util.HashSet;
import java.util.Map;
import java.util.PriorityQueue;
import java.util.Set;
import java.util.function.Predicate;

/** All PLACES that are come to from one, the cheapest first, one by one: slow, but plain. */
final class Search {
    private final Sample sample;
    private final int outBits;
    final Map<String, Long> costs = new HashMap<>();
    /** Whether there are no more PLACES than those found. */
    final boolean isWhole;
    /** All PLACES that cost no more than this are found. */
    final long surely;

    private record Found(String place, long cost) { }

    Search(Sample sample, int outBits, String start, int mostPlaces) {
        this.sample = sample;
        this.outBits = outBits;
        PriorityQueue<Found> ahead = new PriorityQueue<>((x, y) -> Long.compare(x.cost, y.cost));
        ahead.add(new Found(start, 0));
        while (!ahead.isEmpty() && costs.size() < mostPlaces) {
            Found found = ahead.poll();
            if (costs.containsKey(found.place)) {
                continue;
            }
            costs.put(found.place, found.cost);
            for (int r = 0; r < sample.rules.size(); r++) {
                String next = behind(found.place, r);
                if (next != null && !costs.containsKey(next)) {
                    ahead.add(new Found(next, found.cost + sample.rules.get(r)[3]));
                }
            }
        }
        while (!ahead.isEmpty() && costs.containsKey(ahead.peek().place)) {
            ahead.poll();
        }
        isWhole = ahead.isEmpty();
        surely = isWhole ? Long.MAX_VALUE : ahead.peek().cost - 1;
    }

    private String behind(String place, int r) {
        return (outBits >> r & 1) == 1 ? null : sample.behind(place, r);
    }

    /** The least cost of such a PLACE; -1: none found. */
    long least(Predicate<String> wanted) {
        long least = -1;
        for (Map.Entry<String, Long> found : costs.entrySet()) {
            if (wanted.test(found.getKey()) && (least < 0 || found.getValue() < least)) {
                least = found.getValue();
            }
        }
        return least;
    }

    /** Whether an answer (-1: none) can be the least cost of such a PLACE. */
    boolean allows(long answer, Predicate<String> wanted) {
        long least = least(wanted);
        if (least >= 0 && least <= surely) {
            return answer == least;
        }
        return answer == -1 ? !(least >= 0) : answer > surely && (least < 0 || answer <= least);
    }

    boolean isStuck(String place) {
        for (int r = 0; r < sample.rules.size(); r++) {
            if (behind(place, r) != null) {
                return false;
            }
        }
        return place.length() > 1;
    }

    int highest() {
        int most = 0;
        for (String place : costs.keySet()) {
            most = Math.max(most, place.length() - 1);
        }
        return most;
    }

    /** The most STEPS from a PLACE, all being found; -1: for ever. */
    long longest(String start) {
        Map<String, Long> known = new HashMap<>();
        Set<String> open = new HashSet<>();
        return longest(start, known, open);
    }

    private long longest(String place, Map<String, Long> known, Set<String> open) {
        if (known.containsKey(place)) {
            return known.get(place);
        }
        if (!open.add(place)) {
            return -1;
        }
        long most = 0;
        for (int r = 0; r < sample.rules.size() && most >= 0; r++) {
            String next = behind(place, r);
            if (next != null) {
                long steps = longest(next, known, open);
                most = steps < 0 ? -1 : Math.max(most, steps + 1);
            }
        }
        open.remove(place);
        known.put(place, most);
        return most;
    }
}
