import java.util.ArrayList;
import java.util.HashSet;
import java.util.List;
import java.util.Map;
import java.util.Set;
import java.util.TreeMap;
import java.util.TreeSet;

/** The document once more, as plainly and slowly as it can be said: RandomRunsTest holds the program against it. */
final class NaiveNight {
    private int night;
    private int hour;
    private int drawn;
    private int row = 3;
    private int yawns;
    private final int[] rate = {10, 10, 10, 10, 10, 10};
    private final int[] allowance = {20, 20, 20, 20, 20, 20};
    private final int[] quota = {5, 5, 5, 5, 5, 5};
    private final int[] came = new int[6];
    private final int[] duties = new int[6];
    private final int[] fines = new int[6];
    private final List<int[]> gates = new ArrayList<>(); // one, other, from, hours, ODDS, WATCH
    private final List<Set<Integer>> revoked = new ArrayList<>();
    private final List<List<Integer>> queues = new ArrayList<>();
    private final List<int[]> sleepers = new ArrayList<>(); // LAND, BABY, PATIENCE, AWAKE
    private final Map<Integer, int[]> passes = new TreeMap<>(); // GATE, NIGHT, VERSE
    private final Map<Integer, Integer> declared = new TreeMap<>();
    private final List<int[]> parts = new ArrayList<>(); // DREAM, WORTH, DREAD, FATE, who brought it
    private final List<String> places = new ArrayList<>(); // "head 3", "store 4", "gone"
    private final List<int[]> hidings = new ArrayList<>(); // SLEEPER, DREAM, NIGHT

    private static RuntimeException index() {
        return new IndexOutOfBoundsException();
    }

    private static RuntimeException argument() {
        return new IllegalArgumentException();
    }

    private static RuntimeException state() {
        return new IllegalStateException();
    }

    private static boolean out(int v, int least, int most) {
        return v < least || v > most;
    }

    private boolean noGate(int g) {
        return out(g, 0, gates.size() - 1);
    }

    private boolean noSleeper(int s) {
        return out(s, 0, sleepers.size() - 1);
    }

    private boolean noPart(int p) {
        return out(p, 0, parts.size() - 1);
    }

    private int queueOf(int s) {
        for (int g = 0; g < gates.size(); g++) {
            if (queues.get(g).contains(s)) {
                return g;
            }
        }
        return -1;
    }

    private boolean awake(int s) {
        return sleepers.get(s)[3] == 1;
    }

    private boolean atRest(int s) {
        return !awake(s) && queueOf(s) < 0;
    }

    private int headOf(int p) {
        return places.get(p).startsWith("head ") ? Integer.parseInt(places.get(p).substring(5)) : -1;
    }

    private int landOf(int p) {
        if (places.get(p).startsWith("store ")) {
            return Integer.parseInt(places.get(p).substring(6));
        }
        return headOf(p) < 0 ? -1 : sleepers.get(headOf(p))[0];
    }

    private boolean hasDeclared(int s, int p) {
        return declared.containsKey(s) && (declared.get(s) & 1 << p) != 0;
    }

    private boolean open(int g, int at) {
        for (int k = 0; k < gates.get(g)[3]; k++) {
            if ((gates.get(g)[2] + k) % 24 == at) {
                return true;
            }
        }
        return false;
    }

    private boolean dozes(int g) {
        return gates.get(g)[5] >= 5;
    }

    private boolean good(int s, int g) {
        int[] pass = passes.get(s);
        if (pass == null || pass[0] != g || pass[1] != night) {
            return false;
        }
        int right = (13 * s + 29 * g + 7 * night) % 97;
        if (dozes(g)) {
            return pass[2] == right || pass[2] == right + 1 || pass[2] == right - 1;
        }
        return pass[2] == right && !revoked.get(g).contains(right);
    }

    int land(int land, int r, int a) {
        if (out(land, 0, 5)) throw index();
        if (out(r, 0, 50) || out(a, 0, 99)) throw argument();
        int before = rate[land];
        rate[land] = r;
        allowance[land] = a;
        return before;
    }

    int trade(int from, int to, int many) {
        if (out(from, 0, 5) || out(to, 0, 5)) throw index();
        if (from == to || many < 0) throw argument();
        if (quota[from] < many || (long) quota[to] + many > 30) throw state();
        quota[from] -= many;
        quota[to] += many;
        return quota[to];
    }

    int gate(int one, int other, int from, int hours) {
        if (out(one, 0, 5) || out(other, 0, 5)) throw index();
        if (one == other || out(from, 0, 23) || out(hours, 1, 24)) throw argument();
        if (gates.size() == 8) throw state();
        gates.add(new int[] {one, other, from, hours, 5, 0});
        revoked.add(new HashSet<>());
        queues.add(new ArrayList<>());
        return gates.size() - 1;
    }

    int odds(int g, int odds) {
        if (noGate(g)) throw index();
        if (out(odds, 0, 10)) throw argument();
        int before = gates.get(g)[4];
        gates.get(g)[4] = odds;
        return before;
    }

    int relieve(int g) {
        if (noGate(g)) throw index();
        int before = gates.get(g)[5];
        gates.get(g)[5] = 0;
        return before;
    }

    int sleeper(int land, int baby, int patience) {
        if (out(land, 0, 5)) throw index();
        if (out(patience, 1, 9)) throw argument();
        if (sleepers.size() == 12) throw state();
        sleepers.add(new int[] {land, baby, patience, 0});
        return sleepers.size() - 1;
    }

    int part(int s, int dream, int worth, int dread) {
        if (noSleeper(s)) throw index();
        if (out(dream, 0, 7) || out(worth, 0, 99) || out(dread, 0, 9)) throw argument();
        if (parts.size() == 24 || !atRest(s)) throw state();
        parts.add(new int[] {dream, worth, dread, 0, -1});
        places.add("head " + s);
        return parts.size() - 1;
    }

    int give(int p, int to) {
        if (noPart(p) || noSleeper(to)) throw index();
        int from = headOf(p);
        if (from < 0 || from == to || sleepers.get(from)[0] != sleepers.get(to)[0]) throw state();
        if (!atRest(from) || !atRest(to)) throw state();
        places.set(p, "head " + to);
        return from;
    }

    int sing(int s, int g, int n, int verse) {
        if (noSleeper(s) || noGate(g)) throw index();
        if (out(n, night, 99) || out(verse, 0, 96)) throw argument();
        passes.put(s, new int[] {g, n, verse});
        return (13 * s + 29 * g + 7 * n) % 97;
    }

    int revoke(int g, int verse) {
        if (noGate(g)) throw index();
        if (out(verse, 0, 96)) throw argument();
        return revoked.get(g).add(verse) ? 1 : 0;
    }

    int join(int s, int g, int declares) {
        if (noSleeper(s) || noGate(g)) throw index();
        if (declares < 0) throw argument();
        for (int p = 0; p < 31; p++) {
            if ((declares & 1 << p) != 0 && (noPart(p) || headOf(p) != s)) throw argument();
        }
        int land = sleepers.get(s)[0];
        if (!atRest(s) || land != gates.get(g)[0] && land != gates.get(g)[1]) throw state();
        List<Integer> queue = queues.get(g);
        int place = queue.size();
        while (sleepers.get(s)[1] == 1 && place > 0 && sleepers.get(queue.get(place - 1))[1] == 0) {
            place--;
        }
        queue.add(place, s);
        declared.put(s, declares);
        return place;
    }

    int leave(int s) {
        if (noSleeper(s)) throw index();
        int g = queueOf(s);
        if (g < 0) throw state();
        int place = queues.get(g).indexOf(s);
        queues.get(g).remove(place);
        declared.remove(s);
        return place;
    }

    int yawn(int g) {
        if (noGate(g)) throw index();
        List<Integer> queue = queues.get(g);
        if (!open(g, hour) || queue.isEmpty()) throw state();
        yawns++;
        int s = queue.remove(0);
        int answer = good(s, g) ? through(s, g) : -1;
        declared.remove(s);
        for (int other : new ArrayList<>(queue)) {
            if (--sleepers.get(other)[2] == 0) {
                queue.remove((Object) other);
                declared.remove(other);
                sleepers.get(other)[3] = 1;
                places.replaceAll(place -> place.equals("head " + other) ? "gone" : place);
            }
        }
        return answer;
    }

    private int through(int s, int g) {
        int from = sleepers.get(s)[0];
        int to = gates.get(g)[0] + gates.get(g)[1] - from;
        boolean searched = false;
        if (!dozes(g)) {
            searched = row % 10 < gates.get(g)[4];
            row = (21 * row + 11) % 4096;
            drawn++;
        }
        int caught = 0;
        int duty = duty(s, to);
        int worth = comesIn(s, to).stream().mapToInt(p -> parts.get(p)[1]).sum();
        List<Integer> in = comesIn(s, to);
        for (int p = 0; p < parts.size(); p++) {
            if (headOf(p) != s) {
                continue;
            }
            if (!hasDeclared(s, p)) {
                if (hidings.size() < 40) {
                    hidings.add(new int[] {s, parts.get(p)[0], night});
                }
                parts.get(p)[3] = searched ? 3 : 4;
                parts.get(p)[4] = s;
                if (searched) {
                    caught++;
                    places.set(p, "store " + to);
                    fines[to] += parts.get(p)[1];
                }
            } else if (in.contains(p)) {
                parts.get(p)[3] = worth <= allowance[to] ? 2 : 1;
                came[to] += parts.get(p)[2] >= 5 ? 1 : 0;
            } else {
                parts.get(p)[3] = 5;
                places.set(p, "store " + from);
            }
        }
        duties[to] += duty;
        sleepers.get(s)[0] = to;
        passes.remove(s);
        return caught;
    }

    private List<Integer> comesIn(int s, int to) {
        List<Integer> in = new ArrayList<>();
        int room = quota[to] - came[to];
        for (int p = 0; p < parts.size(); p++) {
            if (headOf(p) == s && hasDeclared(s, p) && (parts.get(p)[2] < 5 || room-- > 0)) {
                in.add(p);
            }
        }
        return in;
    }

    private int duty(int s, int to) {
        int worth = 0;
        for (int p : comesIn(s, to)) {
            worth += parts.get(p)[1];
        }
        return Math.max(0, worth - allowance[to]) * rate[to] / 100;
    }

    int appeal(int p) {
        if (noPart(p)) throw index();
        if (parts.get(p)[3] != 3 || !places.get(p).startsWith("store ")) throw state();
        int land = landOf(p);
        int s = parts.get(p)[4];
        if (parts.get(p)[1] > allowance[land] || sleepers.get(s)[0] != land || !atRest(s)) {
            return 0;
        }
        places.set(p, "head " + s);
        parts.get(p)[3] = 2;
        fines[land] -= parts.get(p)[1];
        return 1;
    }

    int pass(int hours) {
        if (out(hours, 1, 48)) throw argument();
        if (24 * night + hour + hours >= 2400) throw state();
        for (int k = 0; k < hours; k++) {
            hour = (hour + 1) % 24;
            if (hour == 0) {
                night++;
                java.util.Arrays.fill(came, 0);
                passes.values().removeIf(pass -> pass[1] < night);
            }
            spread();
            for (int g = 0; g < gates.size(); g++) {
                gates.get(g)[5] = open(g, hour) ? gates.get(g)[5] + 1 : 0;
            }
        }
        return hour;
    }

    private void spread() {
        List<Set<Integer>> next = new ArrayList<>();
        for (int a = 0; a < gates.size(); a++) {
            Set<Integer> all = new HashSet<>();
            for (int b = 0; b < gates.size(); b++) {
                Set<Integer> both = new HashSet<>(List.of(gates.get(a)[0], gates.get(a)[1]));
                both.retainAll(List.of(gates.get(b)[0], gates.get(b)[1]));
                if (!both.isEmpty()) {
                    all.addAll(revoked.get(b));
                }
            }
            next.add(all);
        }
        revoked.clear();
        revoked.addAll(next);
    }

    int ofLand(int land, int what) {
        if (out(land, 0, 5)) throw index();
        if (out(what, 0, 8)) throw argument();
        int stored = 0;
        int dreams = 0;
        int dwellers = 0;
        for (String place : places) {
            stored += place.equals("store " + land) ? 1 : 0;
        }
        for (int[] s : sleepers) {
            dwellers += s[0] == land && s[3] == 0 ? 1 : 0;
        }
        for (int dream = 0; dream < 8; dream++) {
            dreams += whole(dream, land) ? 1 << dream : 0;
        }
        return new int[] {rate[land], allowance[land], quota[land], came[land], duties[land], fines[land], stored,
            dwellers, dreams}[what];
    }

    private boolean whole(int dream, int land) {
        int all = 0;
        int here = 0;
        for (int p = 0; p < parts.size(); p++) {
            if (parts.get(p)[0] == dream) {
                all++;
                here += landOf(p) == land ? 1 : 0;
            }
        }
        return all > 0 && all == here;
    }

    int ofGate(int g, int what) {
        if (noGate(g)) throw index();
        if (out(what, 0, 9)) throw argument();
        int[] gate = gates.get(g);
        List<Integer> queue = queues.get(g);
        return new int[] {gate[0], gate[1], open(g, hour) ? 1 : 0, gate[4], gate[5], dozes(g) ? 1 : 0, queue.size(),
            queue.isEmpty() ? -1 : queue.get(0), hidden(g), revoked.get(g).size()}[what];
    }

    private int hidden(int g) {
        int worth = 0;
        for (int s : queues.get(g)) {
            for (int p = 0; p < parts.size(); p++) {
                worth += headOf(p) == s && !hasDeclared(s, p) ? parts.get(p)[1] : 0;
            }
        }
        return worth;
    }

    int ofSleeper(int s, int what) {
        if (noSleeper(s)) throw index();
        if (out(what, 0, 8)) throw argument();
        int g = queueOf(s);
        int head = 0;
        int hid = 0;
        for (int p = 0; p < parts.size(); p++) {
            head += headOf(p) == s ? 1 << p : 0;
        }
        for (int[] hiding : hidings) {
            hid += hiding[0] == s ? 1 : 0;
        }
        return new int[] {sleepers.get(s)[0], sleepers.get(s)[2], awake(s) ? 2 : g < 0 ? 0 : 1, g,
            g < 0 ? -1 : queues.get(g).indexOf(s), head, passes.containsKey(s) ? passes.get(s)[2] : -1, ring(s),
            hid}[what];
    }

    private int ring(int s) {
        TreeSet<Integer> ring = new TreeSet<>(Set.of(s));
        List<Integer> todo = new ArrayList<>(ring);
        while (!todo.isEmpty()) {
            int next = todo.remove(0);
            for (int other = 0; other < sleepers.size(); other++) {
                if (linked(next, other) && ring.add(other)) {
                    todo.add(other);
                }
            }
        }
        return ring.stream().mapToInt(k -> 1 << k).sum();
    }

    private boolean linked(int a, int b) {
        for (int[] x : hidings) {
            for (int[] y : hidings) {
                if (x[0] == a && y[0] == b && x[1] == y[1] && Math.abs(x[2] - y[2]) <= 2) {
                    return true;
                }
            }
        }
        return false;
    }

    int ofPart(int p, int what) {
        if (noPart(p)) throw index();
        if (out(what, 0, 5)) throw argument();
        int[] part = parts.get(p);
        return new int[] {part[0], part[1], part[2], part[3], landOf(p), headOf(p)}[what];
    }

    int isGood(int s, int g) {
        if (noSleeper(s) || noGate(g)) throw index();
        return good(s, g) ? 1 : 0;
    }

    String queue(int g) {
        if (noGate(g)) throw index();
        List<String> texts = new ArrayList<>();
        for (int s : queues.get(g)) {
            texts.add(s + (sleepers.get(s)[1] == 1 ? "b" : ""));
        }
        return texts.isEmpty() ? "-" : String.join(" ", texts);
    }

    int night(int what) {
        if (out(what, 0, 16)) throw argument();
        int[] fates = new int[6];
        int awake = 0;
        int gone = 0;
        int allDuties = 0;
        int allFines = 0;
        for (int p = 0; p < parts.size(); p++) {
            fates[parts.get(p)[3]]++;
            gone += places.get(p).equals("gone") ? 1 : 0;
        }
        for (int s = 0; s < sleepers.size(); s++) {
            awake += awake(s) ? 1 : 0;
        }
        for (int land = 0; land < 6; land++) {
            allDuties += duties[land];
            allFines += fines[land];
        }
        return new int[] {night, hour, gates.size(), sleepers.size(), awake, parts.size(), fates[1], fates[2],
            fates[3], fates[4], fates[5], gone, hidings.size(), drawn, yawns, allDuties, allFines}[what];
    }

    int way(int from, int to) {
        if (out(from, 0, 5) || out(to, 0, 5)) throw index();
        Set<Integer> there = new HashSet<>(Set.of(from));
        for (int hours = 0; hours <= 72; hours++) {
            if (there.contains(to)) {
                return hours;
            }
            Set<Integer> next = new HashSet<>(there);
            for (int g = 0; g < gates.size(); g++) {
                if (open(g, (hour + hours) % 24)) {
                    if (there.contains(gates.get(g)[0])) next.add(gates.get(g)[1]);
                    if (there.contains(gates.get(g)[1])) next.add(gates.get(g)[0]);
                }
            }
            there = next;
        }
        return -1;
    }

    /** Goes GATE by GATE with the first PLAN (of the least ODDS ahead) for each sum and each catch so far. */
    int plan(int promise, int g) {
        if (g != -1 && noGate(g)) throw index();
        if (out(promise, 0, 2000)) throw argument();
        Map<List<Integer>, String> plans = new TreeMap<>((a, b) -> a.get(0).equals(b.get(0))
            ? a.get(1).compareTo(b.get(1)) : a.get(0).compareTo(b.get(0)));
        plans.put(List.of(0, 0), "");
        for (int gate = 0; gate < gates.size(); gate++) {
            Map<List<Integer>, String> wider = new TreeMap<>(((TreeMap<List<Integer>, String>) plans).comparator());
            int hidden = hidden(gate);
            for (Map.Entry<List<Integer>, String> plan : plans.entrySet()) {
                for (int odds = 0; odds <= (hidden == 0 ? 0 : 10); odds++) {
                    List<Integer> key = List.of(plan.getKey().get(0) + odds,
                        Math.min(promise, plan.getKey().get(1) + hidden * odds / 10));
                    String text = plan.getValue() + (char) ('A' + odds);
                    wider.merge(key, text, (a, b) -> a.compareTo(b) <= 0 ? a : b);
                }
            }
            plans = wider;
        }
        for (Map.Entry<List<Integer>, String> plan : plans.entrySet()) {
            if (plan.getKey().get(1) >= promise) {
                return g == -1 ? plan.getKey().get(0) : plan.getValue().charAt(g) - 'A';
            }
        }
        return -1;
    }

    int wouldPay(int g) {
        if (noGate(g)) throw index();
        if (queues.get(g).isEmpty() || !good(queues.get(g).get(0), g)) {
            return 0;
        }
        int s = queues.get(g).get(0);
        return duty(s, gates.get(g)[0] + gates.get(g)[1] - sleepers.get(s)[0]);
    }
}
