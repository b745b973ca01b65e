import java.util.ArrayList;
import java.util.List;

/** The terms of the document said again in the plainest way, by sets of numbers, to hold the class against. */
final class PlainWalls {
    final List<Integer> layers = new ArrayList<>();
    final StringBuilder letters = new StringBuilder();
    final List<Integer> rooms = new ArrayList<>();
    final List<int[]> talks = new ArrayList<>();

    PlainWalls copied() {
        PlainWalls copy = new PlainWalls();
        copy.layers.addAll(layers);
        copy.letters.append(letters);
        copy.rooms.addAll(rooms);
        copy.talks.addAll(talks);
        return copy;
    }

    String words() {
        StringBuilder words = new StringBuilder("p");
        for (int i = 0; i < layers.size(); i++) {
            words.append(Math.min(9, layers.get(i)));
        }
        for (int x = 0; x < people(); x++) {
            words.append(' ').append(letters.charAt(x)).append(rooms.get(x));
        }
        return words.toString();
    }

    int people() {
        return letters.length();
    }

    boolean is(int x, char letter) {
        return letters.charAt(x) == letter;
    }

    static boolean has(int set, int x) {
        return set / (1 << x) % 2 == 1;
    }

    static int size(int set) {
        return Integer.toBinaryString(set).replace("0", "").length();
    }

    int less(int loud, int a, int b) {
        int rest = loud;
        for (int i = Math.min(a, b); i < Math.max(a, b); i++) {
            rest -= layers.get(i);
        }
        return rest;
    }

    int speaks(int x) {
        int loud = 5;
        if (is(x, 'l') || is(x, 's')) {
            loud += 3;
        }
        if (is(x, 'w') || is(x, 'i')) {
            loud -= 3;
        }
        return loud;
    }

    int sings(int x) {
        return is(x, 's') ? speaks(x) + 2 : speaks(x);
    }

    int noise(int room, int singing) {
        return noise(room, singing, 0);
    }

    int noise(int room, int singing, int speaking) {
        int most = 0;
        for (int x = 0; x < people(); x++) {
            if (has(singing, x) && less(sings(x), room, rooms.get(x)) > most) {
                most = less(sings(x), room, rooms.get(x));
            }
            if (has(speaking, x) && less(speaks(x), room, rooms.get(x)) > most) {
                most = less(speaks(x), room, rooms.get(x));
            }
        }
        return most;
    }

    boolean hears(int x, int from, int singing, int speaking) {
        if (has(singing, x)) {
            return false;
        }
        int comes = less(speaks(from), rooms.get(x), rooms.get(from));
        int noise = noise(rooms.get(x), singing, speaking);
        if (is(x, 'i')) {
            return comes >= 0 && comes >= noise;
        }
        if (is(x, 'd')) {
            return comes >= 4 && comes > noise;
        }
        return comes >= 1 && comes > noise;
    }

    int heard(int from, int singing) {
        int set = 0;
        for (int x = 0; x < people(); x++) {
            if (x != from && hears(x, from, singing, 0)) {
                set += 1 << x;
            }
        }
        return set;
    }

    boolean isSafe(int[] talk, int singing, int speaking) {
        if (has(singing, talk[0]) || has(singing, talk[1]) || !hears(talk[1], talk[0], singing, speaking)) {
            return false;
        }
        for (int x = 0; x < people(); x++) {
            if (has(talk[2], x) && hears(x, talk[0], singing, speaking)) {
                return false;
            }
        }
        return true;
    }

    int safes() {
        int set = 0;
        for (int k = 0; k < talks.size(); k++) {
            if (isSafe(talks.get(k), 0, 0)) {
                set += 1 << k;
            }
        }
        return set;
    }

    boolean beside(int set) {
        for (int k = 0; k < talks.size(); k++) {
            int others = 0;
            for (int j = 0; j < talks.size(); j++) {
                if (j != k && has(set, j) && has(set, k)) {
                    int[] a = talks.get(k);
                    int[] b = talks.get(j);
                    if (a[0] == b[0] || a[0] == b[1] || a[1] == b[0] || a[1] == b[1]) {
                        return false;
                    }
                    others |= 1 << b[0];
                }
            }
            if (has(set, k) && !isSafe(talks.get(k), 0, others)) {
                return false;
            }
        }
        return true;
    }

    /** The least set of the fewest for which the test holds, or -1. */
    int hush(int x) {
        for (int n = 0; n <= people(); n++) {
            for (int set = 0; set < 1 << people(); set++) {
                if (size(set) == n && !has(set, x) && heard(x, set) == 0) {
                    return set;
                }
            }
        }
        return -1;
    }

    int cover(int k) {
        for (int n = 0; n <= people(); n++) {
            for (int set = 0; set < 1 << people(); set++) {
                if (size(set) == n && isSafe(talks.get(k), set, 0)) {
                    return set;
                }
            }
        }
        return -1;
    }

    /** Fewest hours, and the least set with the first talk, by taking the least talk left with all sets; or none. */
    int[] turns() {
        int all = (1 << talks.size()) - 1;
        int fewest = hours(all);
        for (int set = 1; set <= all; set += 2) {
            if (beside(set) && hours(all - set) == fewest - 1) {
                return new int[] {fewest, set};
            }
        }
        return all == 0 ? new int[] {0, 0} : null;
    }

    private int hours(int left) {
        if (left == 0) {
            return 0;
        }
        int least = Integer.numberOfTrailingZeros(left);
        int best = 1000;
        for (int set = 1; set <= left; set++) {
            if ((set & left) == set && has(set, least) && beside(set)) {
                best = Math.min(best, 1 + hours(left - set));
            }
        }
        return best;
    }

    int most() {
        for (int n = talks.size(); n > 0; n--) {
            for (int set = 0; set < 1 << talks.size(); set++) {
                if (size(set) == n && beside(set)) {
                    return set;
                }
            }
        }
        return 0;
    }

    /** All orders of people, the first one first. */
    List<List<Integer>> orders() {
        List<List<Integer>> all = new ArrayList<>();
        orders(new ArrayList<>(), all);
        return all;
    }

    private void orders(List<Integer> begun, List<List<Integer>> all) {
        if (begun.size() == people()) {
            all.add(new ArrayList<>(begun));
        }
        for (int x = 0; x < people(); x++) {
            if (!begun.contains(x)) {
                begun.add(x);
                orders(begun, all);
                begun.remove(begun.size() - 1);
            }
        }
    }

    PlainWalls ordered(List<Integer> order) {
        PlainWalls changed = copied();
        for (int x = 0; x < people(); x++) {
            changed.rooms.set(x, rooms.get(order.get(x)));
        }
        return changed;
    }

    List<Integer> bestRooms() {
        List<Integer> best = null;
        int most = -1;
        for (List<Integer> order : orders()) {
            int n = size(ordered(order).safes());
            if (n > most) {
                most = n;
                best = order;
            }
        }
        return best;
    }

    /** The two, and how many talks are safe then; or none. */
    int[] swap() {
        int[] best = null;
        int most = size(safes());
        for (int x = 0; x < people(); x++) {
            for (int y = x + 1; y < people(); y++) {
                PlainWalls changed = copied();
                changed.rooms.set(x, rooms.get(y));
                changed.rooms.set(y, rooms.get(x));
                if (size(changed.safes()) > most) {
                    most = size(changed.safes());
                    best = new int[] {x, y, most};
                }
            }
        }
        return best;
    }

    List<Integer> paste(int k) {
        for (int n = 0; n <= 6; n++) {
            List<Integer> found = paste(k, n, new ArrayList<>());
            if (found != null) {
                return found;
            }
        }
        return null;
    }

    private List<Integer> paste(int k, int left, List<Integer> begun) {
        if (begun.size() == layers.size()) {
            PlainWalls pasted = copied();
            for (int i = 0; i < layers.size(); i++) {
                pasted.layers.set(i, layers.get(i) + begun.get(i));
            }
            return left == 0 && pasted.isSafe(talks.get(k), 0, 0) ? new ArrayList<>(begun) : null;
        }
        for (int n = 0; n <= left; n++) {
            begun.add(n);
            List<Integer> found = paste(k, left - n, begun);
            begun.remove(begun.size() - 1);
            if (found != null) {
                return found;
            }
        }
        return null;
    }

    /** How many, and of which wall (-9: of none); or none. */
    int[] tearOff(int x, int from) {
        if (hears(x, from, 0, 0)) {
            return new int[] {0, -9};
        }
        for (int n = 1; n <= 20; n++) {
            for (int i = 0; i < layers.size(); i++) {
                PlainWalls torn = copied();
                torn.layers.set(i, layers.get(i) - n);
                if (layers.get(i) >= n && torn.hears(x, from, 0, 0)) {
                    return new int[] {n, i};
                }
            }
        }
        return null;
    }

    int spread(int knowing, int n) {
        int then = knowing;
        for (int h = 0; h < n; h++) {
            int now = then;
            for (int x = 0; x < people(); x++) {
                then |= has(now, x) ? heard(x, 0) : 0;
            }
        }
        return then;
    }

    int leak(int set) {
        int who = 0;
        for (int x = 0; x < people(); x++) {
            who += has(set, x) && heard(x, 0) == set - (1 << x) ? 1 << x : 0;
        }
        return who;
    }

    int leaks(int set) {
        int ways = 0;
        for (int x = 0; x < people(); x++) {
            for (int y = 0; y < people(); y++) {
                int first = heard(x, 0) + (1 << x);
                ways += has(first, y) && (first | heard(y, 0)) == set ? 1 : 0;
            }
        }
        return ways;
    }

    int rent(int room) {
        int rent = 20;
        for (int x = 0; x < people(); x++) {
            rent -= less(speaks(x), room, rooms.get(x)) > 0 ? 2 : 0;
        }
        return Math.max(rent, 0);
    }
}
