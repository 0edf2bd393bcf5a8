import java.util.ArrayList;
import java.util.List;
import java.util.Map;
import java.util.Set;
import java.util.TreeMap;
import java.util.TreeSet;

/** The document said once more, with the Java library's sets and maps, to hold LostHosts against. */
final class Model {
    private static final int UNKNOWN = -1, OUTSIDE = -2, STATE = -3, FULL = -4, NONE = -9;

    private record Letter(boolean grant, int b, int a, int weight) { }

    private static final class Thing {
        final int host;
        boolean root;
        boolean gone;
        int out;
        int age;
        final Map<Integer, Integer> links = new TreeMap<>();

        Thing(int host, boolean root) {
            this.host = host;
            this.root = root;
        }
    }

    private final List<Thing> things = new ArrayList<>();
    private final List<Letter> letters = new ArrayList<>();
    private final Set<Integer> dead = new TreeSet<>();
    private int filled = 0;

    private static int bits(Set<Integer> set) {
        int bits = 0;
        for (int k : set) {
            bits += 1 << k;
        }
        return bits;
    }

    private boolean noHost(int h) {
        return h < 0 || h > 3;
    }

    private boolean noThing(int... numbers) {
        for (int a : numbers) {
            if (a < 0 || a >= things.size()) {
                return true;
            }
        }
        return false;
    }

    private boolean someGone(int... numbers) {
        for (int a : numbers) {
            if (things.get(a).gone) {
                return true;
            }
        }
        return false;
    }

    private boolean together(int a, int b) {
        return things.get(a).host == things.get(b).host;
    }

    private boolean linked(int a, int b) {
        return things.get(a).links.containsKey(b);
    }

    private void more(int a, int b, int weight) {
        if (!linked(a, b)) {
            things.get(b).age = 0;
        }
        things.get(a).links.merge(b, weight, Integer::sum);
    }

    int object(int h, boolean root) {
        if (noHost(h)) return UNKNOWN;
        if (dead.contains(h)) return STATE;
        if (things.size() == 10) return FULL;
        things.add(new Thing(h, root));
        return things.size() - 1;
    }

    int root(int a, boolean is) {
        if (noThing(a)) return UNKNOWN;
        if (someGone(a)) return STATE;
        boolean was = things.get(a).root;
        things.get(a).root = is;
        return was != is ? 1 : 0;
    }

    int link(int a, int b) {
        if (noThing(a, b)) return UNKNOWN;
        if (a == b || someGone(a, b) || !together(a, b) && !things.get(b).root) return STATE;
        if (linked(a, b)) return 0;
        int weight = together(a, b) ? 0 : 64;
        things.get(b).out += weight;
        more(a, b, weight);
        return 1;
    }

    int unlink(int a, int b) {
        if (noThing(a, b)) return UNKNOWN;
        if (!linked(a, b)) return STATE;
        boolean far = !together(a, b);
        if (far && letters.size() >= 60) return FULL;
        int weight = things.get(a).links.remove(b);
        if (far) letters.add(new Letter(false, b, NONE, weight));
        return far ? 1 : 0;
    }

    private Set<Integer> linkedTo(int b) {
        Set<Integer> set = new TreeSet<>();
        for (int a = 0; a < things.size(); a++) {
            if (linked(a, b)) set.add(a);
        }
        return set;
    }

    int ofObject(int a, int what) {
        if (noThing(a)) return UNKNOWN;
        Thing t = things.get(a);
        return switch (what) {
            case 0 -> t.host;
            case 1 -> t.root ? 1 : 0;
            case 2 -> t.gone ? 0 : 1;
            case 3 -> t.out;
            case 4 -> t.age;
            case 5 -> bits(t.links.keySet());
            case 6 -> bits(linkedTo(a));
            default -> OUTSIDE;
        };
    }

    int weight(int a, int b) {
        if (noThing(a, b)) return UNKNOWN;
        return things.get(a).links.getOrDefault(b, NONE);
    }

    private int split(int x, int b) {
        int weight = things.get(x).links.get(b);
        if (weight == 1) {
            weight = 65;
            things.get(b).out += 64;
            filled++;
        }
        int half = weight / 2;
        things.get(x).links.put(b, weight - half);
        return half;
    }

    int give(int x, int a, int b) {
        if (noThing(x, a, b)) return UNKNOWN;
        if (someGone(x, a, b) || a == x || a == b || !linked(x, a) || x != b && !linked(x, b)) return STATE;
        if (together(x, a) && together(x, b)) {
            more(a, b, 0);
            return 0;
        }
        if (together(x, a)) {
            more(a, b, split(x, b));
            return 0;
        }
        if (letters.size() >= 60) return FULL;
        int weight = 64;
        if (together(x, b)) {
            things.get(b).out += 64;
        } else {
            weight = split(x, b);
        }
        letters.add(new Letter(true, b, a, weight));
        return 1;
    }

    int deliver(int k) {
        if (k < 0 || k >= letters.size()) return UNKNOWN;
        Letter l = letters.remove(k);
        Thing b = things.get(l.b);
        if (!l.grant) {
            if (!b.gone) b.out -= l.weight;
            return 1;
        }
        if (dead.contains(things.get(l.a).host) || b.gone) return 0;
        boolean home = together(l.a, l.b);
        if (things.get(l.a).gone) {
            if (home) b.out -= l.weight;
            else letters.add(new Letter(false, l.b, NONE, l.weight));
        } else if (home) {
            b.out -= l.weight;
            more(l.a, l.b, 0);
        } else {
            more(l.a, l.b, l.weight);
        }
        return 0;
    }

    private int goesTo(Letter l) {
        return things.get(l.grant ? l.a : l.b).host;
    }

    int letter(int k, int what) {
        if (k < 0 || k >= letters.size()) return UNKNOWN;
        Letter l = letters.get(k);
        return switch (what) {
            case 0 -> l.grant ? 0 : 1;
            case 1 -> goesTo(l);
            case 2 -> l.weight;
            case 3 -> l.b;
            case 4 -> l.a;
            default -> OUTSIDE;
        };
    }

    private Set<Integer> on(int h) {
        Set<Integer> set = new TreeSet<>();
        for (int a = 0; a < things.size(); a++) {
            if (things.get(a).host == h && !things.get(a).gone) set.add(a);
        }
        return set;
    }

    private void follow(int a, Set<Integer> set) {
        if (set.add(a)) {
            for (int b : things.get(a).links.keySet()) {
                if (together(a, b)) follow(b, set);
            }
        }
    }

    private Set<Integer> staying(int h, boolean byOut) {
        Set<Integer> set = new TreeSet<>();
        for (int a : on(h)) {
            if (things.get(a).root || byOut && things.get(a).out > 0) follow(a, set);
        }
        return set;
    }

    private int vanish(Set<Integer> set, boolean telling) {
        for (int a : set) {
            things.get(a).gone = true;
        }
        for (int a : set) {
            things.get(a).links.forEach((b, weight) -> {
                if (telling && !things.get(b).gone && weight > 0) letters.add(new Letter(false, b, NONE, weight));
            });
            things.get(a).links.clear();
        }
        for (Thing t : things) {
            t.links.keySet().removeAll(set);
        }
        return set.size();
    }

    int collect(int h) {
        if (noHost(h)) return UNKNOWN;
        if (dead.contains(h)) return STATE;
        Set<Integer> lost = on(h);
        Set<Integer> young = staying(h, false);
        for (int a : staying(h, true)) {
            Thing t = things.get(a);
            t.age = young.contains(a) ? 0 : Math.min(9, t.age + 1);
            lost.remove(a);
        }
        return vanish(lost, true);
    }

    int stays(int h) {
        return noHost(h) ? UNKNOWN : bits(staying(h, true));
    }

    int old(int h, int v) {
        if (noHost(h)) return UNKNOWN;
        if (v < 0 || v > 9) return OUTSIDE;
        Set<Integer> set = on(h);
        set.removeIf(a -> things.get(a).age < v);
        return bits(set);
    }

    private void goBack(int b, Set<Integer> set) {
        if (set.add(b)) {
            for (int a : linkedTo(b)) {
                goBack(a, set);
            }
        }
    }

    private Set<Integer> backOf(int b) {
        Set<Integer> set = new TreeSet<>();
        goBack(b, set);
        return set;
    }

    private int why(Set<Integer> set) {
        if (set.stream().anyMatch(a -> things.get(a).root)) return 1;
        return letters.stream().anyMatch(l -> l.grant && set.contains(l.b)) ? 2 : 0;
    }

    int trace(int b) {
        if (noThing(b)) return UNKNOWN;
        if (someGone(b)) return STATE;
        Set<Integer> set = backOf(b);
        return why(set) != 0 ? 0 : vanish(set, true);
    }

    int back(int b, int what) {
        if (noThing(b)) return UNKNOWN;
        if (what != 0 && what != 1) return OUTSIDE;
        if (someGone(b)) return STATE;
        return what == 0 ? bits(backOf(b)) : why(backOf(b));
    }

    int kill(int h) {
        if (noHost(h)) return UNKNOWN;
        if (!dead.add(h)) return STATE;
        return vanish(on(h), false);
    }

    private int given(int b, boolean toDead) {
        int sum = 0;
        for (int a : linkedTo(b)) {
            sum += things.get(a).links.get(b);
        }
        for (Letter l : letters) {
            if (l.b == b && (toDead || !dead.contains(goesTo(l)))) sum += l.weight;
        }
        return sum;
    }

    int recover() {
        int less = 0;
        for (int b = 0; b < things.size(); b++) {
            if (!someGone(b)) {
                less += things.get(b).out - given(b, false);
                things.get(b).out = given(b, false);
            }
        }
        return less;
    }

    int settle() {
        int all = 0;
        int now;
        do {
            now = 0;
            while (!letters.isEmpty()) {
                deliver(0);
            }
            for (int h = 0; h < 4; h++) {
                now += Math.max(0, collect(h));
            }
            all += now;
        } while (now > 0 || !letters.isEmpty());
        return all;
    }

    /** How far each OBJECT that is REACHED is from a ROOT. */
    private Map<Integer, Integer> distances() {
        Map<Integer, Integer> far = new TreeMap<>();
        List<Integer> queue = new ArrayList<>();
        for (int a = 0; a < things.size(); a++) {
            if (things.get(a).root && !someGone(a)) {
                far.put(a, 0);
                queue.add(a);
            }
        }
        for (int i = 0; i < queue.size(); i++) {
            int a = queue.get(i);
            Set<Integer> next = new TreeSet<>(things.get(a).links.keySet());
            letters.stream().filter(l -> l.grant && l.a == a && !someGone(l.b)).forEach(l -> next.add(l.b));
            for (int b : next) {
                if (far.putIfAbsent(b, far.get(a) + 1) == null) queue.add(b);
            }
        }
        return far;
    }

    int reached() {
        return bits(distances().keySet());
    }

    int far(int b) {
        if (noThing(b)) return UNKNOWN;
        if (someGone(b)) return STATE;
        return distances().getOrDefault(b, NONE);
    }

    private int linkCount(boolean near) {
        return things.stream().mapToInt(t -> (int) t.links.values().stream().filter(w -> near == (w == 0)).count()).sum();
    }

    int many(int what) {
        Set<Integer> there = new TreeSet<>();
        for (int h = 0; h < 4; h++) {
            there.addAll(on(h));
        }
        return switch (what) {
            case 0 -> there.size();
            case 1 -> letters.size();
            case 2 -> linkCount(true);
            case 3 -> linkCount(false);
            case 4 -> 4 - dead.size();
            case 5 -> {
                there.removeAll(distances().keySet());
                yield there.size();
            }
            case 6 -> filled;
            case 7 -> there.stream().allMatch(b -> things.get(b).out == given(b, true)) ? 1 : 0;
            default -> OUTSIDE;
        };
    }
}
