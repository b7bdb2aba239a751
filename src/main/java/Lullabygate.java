import java.util.ArrayList;

/** A frontier of the night: what is told of it, what is asked, and what would be. */
public final class Lullabygate {
    private static final int NONE = -1;

    private static final int LANDS = 6;
    private static final int DREAMS = 8;
    private static final int VERSES = 97;
    private static final int MOST_GATES = 8;
    private static final int MOST_SLEEPERS = 12;
    private static final int MOST_PARTS = 24;
    private static final int MOST_HIDINGS = 40;

    private static final int HOURS_OF_A_NIGHT = 24;
    private static final int LAST_NIGHT = 99;
    private static final int MOST_HOURS_AT_ONCE = 48;
    private static final int LONGEST_WAY = 72;

    private static final int QUOTAS_TOGETHER = 30;
    private static final int MOST_RATE = 50;
    private static final int MOST_WORTH = 99;
    private static final int MOST_DREAD = 9;
    private static final int MOST_PATIENCE = 9;
    private static final int MOST_ODDS = 10;
    private static final int MOST_PROMISE = 2000;
    private static final int DIGEST_PROMISE = 20;
    private static final int LINKING_NIGHTS = 2;

    private static final int AT_REST = 0;
    private static final int IN_QUEUE = 1;
    private static final int AWAKE = 2;

    private static final int DECLARED = 1;
    private static final int EXEMPT = 2;
    private static final int CAUGHT = 3;
    private static final int SLIPPED = 4;
    private static final int TURNED_BACK = 5;

    private final Land[] lands = new Land[LANDS];
    private final ArrayList<Gate> gates = new ArrayList<Gate>();
    private final ArrayList<Sleeper> sleepers = new ArrayList<Sleeper>();
    private final ArrayList<Part> parts = new ArrayList<Part>();
    private final ArrayList<Hiding> hidings = new ArrayList<Hiding>();
    private final Row row = new Row();
    // Made once and filled anew by each call that plans or looks for a way.
    private final int[][] mostCaught = new int[MOST_GATES + 1][MOST_GATES * MOST_ODDS + 1];
    private final int[] arrivals = new int[LANDS];
    private int night;
    private int hour;
    private int yawns;

    public Lullabygate() {
        for (int k = 0; k < LANDS; k++) {
            lands[k] = new Land(k);
        }
    }

    // ---- what is told

    public int land(int land, int rate, int allowance) throws IndexOutOfBoundsException, IllegalArgumentException {
        Land told = landNumbered(land);
        demandRange(rate, 0, MOST_RATE);
        demandRange(allowance, 0, MOST_WORTH);
        int before = told.rate;
        told.rate = rate;
        told.allowance = allowance;
        return before;
    }

    public int trade(int from, int to, int many)
            throws IndexOutOfBoundsException, IllegalArgumentException, IllegalStateException {
        Land giver = landNumbered(from);
        Land taker = landNumbered(to);
        if (from == to || many < 0) {
            throw new IllegalArgumentException("a QUOTA goes to another LAND, and not less than 0 of it");
        }
        if (giver.quota < many || taker.quota + many > QUOTAS_TOGETHER) {
            throw new IllegalStateException("the QUOTA is not enough, or would be too much");
        }
        giver.quota -= many;
        taker.quota += many;
        return taker.quota;
    }

    public int gate(int one, int other, int from, int hours)
            throws IndexOutOfBoundsException, IllegalArgumentException, IllegalStateException {
        Land first = landNumbered(one);
        Land second = landNumbered(other);
        if (one == other) {
            throw new IllegalArgumentException("a GATE is between two different LANDS");
        }
        demandRange(from, 0, HOURS_OF_A_NIGHT - 1);
        demandRange(hours, 1, HOURS_OF_A_NIGHT);
        if (gates.size() >= MOST_GATES) {
            throw new IllegalStateException("there are all GATES that there may be");
        }
        Gate told = new Gate(gates.size(), first, second, from, hours);
        gates.add(told);
        return told.number;
    }

    public int odds(int gate, int odds) throws IndexOutOfBoundsException, IllegalArgumentException {
        Gate told = gateNumbered(gate);
        demandRange(odds, 0, MOST_ODDS);
        int before = told.odds;
        told.odds = odds;
        return before;
    }

    public int relieve(int gate) throws IndexOutOfBoundsException {
        Gate relieved = gateNumbered(gate);
        int before = relieved.watch;
        relieved.watch = 0;
        return before;
    }

    public int sleeper(int land, boolean isBaby, int patience)
            throws IndexOutOfBoundsException, IllegalArgumentException, IllegalStateException {
        Land home = landNumbered(land);
        demandRange(patience, 1, MOST_PATIENCE);
        if (sleepers.size() >= MOST_SLEEPERS) {
            throw new IllegalStateException("there are all SLEEPERS that there may be");
        }
        Sleeper told = new Sleeper(sleepers.size(), home, isBaby, patience);
        sleepers.add(told);
        return told.number;
    }

    public int part(int sleeper, int dream, int worth, int dread)
            throws IndexOutOfBoundsException, IllegalArgumentException, IllegalStateException {
        Sleeper head = sleeperNumbered(sleeper);
        demandRange(dream, 0, DREAMS - 1);
        demandRange(worth, 0, MOST_WORTH);
        demandRange(dread, 0, MOST_DREAD);
        if (parts.size() >= MOST_PARTS || head.state != AT_REST) {
            throw new IllegalStateException("there are all PARTS that there may be, or the SLEEPER is not AT REST");
        }
        Part told = new Part(parts.size(), head, dream, worth, dread);
        parts.add(told);
        return told.number;
    }

    public int give(int part, int to) throws IndexOutOfBoundsException, IllegalStateException {
        Part given = partNumbered(part);
        Sleeper taker = sleeperNumbered(to);
        Sleeper giver = given.head;
        if (giver == null || giver == taker) {
            throw new IllegalStateException("the PART is in no HEAD, or in that one");
        }
        if (giver.land != taker.land || giver.state != AT_REST || taker.state != AT_REST) {
            throw new IllegalStateException("both are not in the same LAND and AT REST");
        }
        given.head = taker;
        return giver.number;
    }

    public int sing(int sleeper, int gate, int night, int verse)
            throws IndexOutOfBoundsException, IllegalArgumentException {
        Sleeper singer = sleeperNumbered(sleeper);
        Gate there = gateNumbered(gate);
        demandRange(night, this.night, LAST_NIGHT);
        demandRange(verse, 0, VERSES - 1);
        singer.pass = new Pass(there, night, verse);
        return rightVerse(singer, there, night);
    }

    public boolean revoke(int gate, int verse) throws IndexOutOfBoundsException, IllegalArgumentException {
        Gate there = gateNumbered(gate);
        demandRange(verse, 0, VERSES - 1);
        boolean isNew = !there.revoked.has(verse);
        there.revoked.put(verse);
        return isNew;
    }

    public int join(int sleeper, int gate, int declares)
            throws IndexOutOfBoundsException, IllegalArgumentException, IllegalStateException {
        Sleeper joining = sleeperNumbered(sleeper);
        Gate there = gateNumbered(gate);
        if (declares < 0 || (declares & ~headOf(joining)) != 0) {
            throw new IllegalArgumentException("what is declared is not all in that HEAD");
        }
        if (joining.state != AT_REST || !there.isAt(joining.land)) {
            throw new IllegalStateException("the SLEEPER is not AT REST, or not in a LAND of the GATE");
        }
        int place = joining.isBaby ? there.babiesInLine() : there.line.size();
        there.line.add(place, joining);
        joining.standAt(there, declares);
        return place;
    }

    public int leave(int sleeper) throws IndexOutOfBoundsException, IllegalStateException {
        Sleeper leaving = sleeperNumbered(sleeper);
        int place = placeOf(leaving);
        if (leaving.gate == null || place == NONE) {
            throw new IllegalStateException("the SLEEPER stands in no QUEUE");
        }
        leaving.gate.line.remove(place);
        leaving.stepOut(AT_REST);
        return place;
    }

    public int yawn(int gate) throws IndexOutOfBoundsException, IllegalStateException {
        Gate there = gateNumbered(gate);
        if (!there.isOpenAt(hour) || there.line.isEmpty()) {
            throw new IllegalStateException("the GATE is not OPEN, or nobody stands there");
        }
        yawns++;
        Sleeper first = there.line.get(0);
        there.line.remove(0);
        int caught = passIsGood(first, there) ? comeThrough(first, there) : NONE;
        first.stepOut(AT_REST);
        tireThoseWhoStand(there);
        return caught;
    }

    public boolean appeal(int part) throws IndexOutOfBoundsException, IllegalStateException {
        Part caught = partNumbered(part);
        Land keeper = caught.store;
        Sleeper bringer = caught.bringer;
        if (caught.fate != CAUGHT || keeper == null || bringer == null) {
            throw new IllegalStateException("the PART was not CAUGHT, or is in no STORE");
        }
        if (caught.worth > keeper.allowance || bringer.land != keeper || bringer.state != AT_REST) {
            return false;
        }
        caught.store = null;
        caught.head = bringer;
        caught.fate = EXEMPT;
        keeper.fines -= caught.worth;
        return true;
    }

    public int pass(int hours) throws IllegalArgumentException, IllegalStateException {
        demandRange(hours, 1, MOST_HOURS_AT_ONCE);
        if (night + (hour + hours) / HOURS_OF_A_NIGHT > LAST_NIGHT) {
            throw new IllegalStateException("NIGHT would be above the last one");
        }
        for (int k = 0; k < hours; k++) {
            beginHour();
        }
        return hour;
    }

    // ---- what is asked

    public int ofLand(int land, int what) throws IndexOutOfBoundsException, IllegalArgumentException {
        Land asked = landNumbered(land);
        switch (what) {
            case 0: return asked.rate;
            case 1: return asked.allowance;
            case 2: return asked.quota;
            case 3: return asked.nightmares;
            case 4: return asked.duties;
            case 5: return asked.fines;
            case 6: return partsInStore(asked);
            case 7: return sleepersIn(asked);
            case 8: return wholeDreams(asked);
            default: throw new IllegalArgumentException("nothing of a LAND has that number");
        }
    }

    public int ofGate(int gate, int what) throws IndexOutOfBoundsException, IllegalArgumentException {
        Gate asked = gateNumbered(gate);
        switch (what) {
            case 0: return asked.one.number;
            case 1: return asked.other.number;
            case 2: return asked.isOpenAt(hour) ? 1 : 0;
            case 3: return asked.odds;
            case 4: return asked.watch;
            case 5: return asked.dozes() ? 1 : 0;
            case 6: return asked.line.size();
            case 7: return asked.line.isEmpty() ? NONE : asked.line.get(0).number;
            case 8: return hiddenWorth(asked);
            case 9: return asked.revoked.size();
            default: throw new IllegalArgumentException("nothing of a GATE has that number");
        }
    }

    public int ofSleeper(int sleeper, int what) throws IndexOutOfBoundsException, IllegalArgumentException {
        Sleeper asked = sleeperNumbered(sleeper);
        switch (what) {
            case 0: return asked.land.number;
            case 1: return asked.patience;
            case 2: return asked.state;
            case 3: return asked.gate == null ? NONE : asked.gate.number;
            case 4: return placeOf(asked);
            case 5: return headOf(asked);
            case 6: return asked.pass == null ? NONE : asked.pass.verse;
            case 7: return ringOf(asked);
            case 8: return hidingsOf(asked);
            default: throw new IllegalArgumentException("nothing of a SLEEPER has that number");
        }
    }

    public int ofPart(int part, int what) throws IndexOutOfBoundsException, IllegalArgumentException {
        Part asked = partNumbered(part);
        switch (what) {
            case 0: return asked.dream;
            case 1: return asked.worth;
            case 2: return asked.dread;
            case 3: return asked.fate;
            case 4: return asked.whereabouts() == null ? NONE : asked.whereabouts().number;
            case 5: return asked.head == null ? NONE : asked.head.number;
            default: throw new IllegalArgumentException("nothing of a PART has that number");
        }
    }

    public boolean isGood(int sleeper, int gate) throws IndexOutOfBoundsException {
        Sleeper holder = sleeperNumbered(sleeper);
        return passIsGood(holder, gateNumbered(gate));
    }

    public String queue(int gate) throws IndexOutOfBoundsException {
        Gate asked = gateNumbered(gate);
        if (asked.line.isEmpty()) {
            return "-";
        }
        StringBuilder text = new StringBuilder();
        for (int k = 0; k < asked.line.size(); k++) {
            Sleeper standing = asked.line.get(k);
            if (k > 0) {
                text.append(' ');
            }
            text.append(standing.number);
            if (standing.isBaby) {
                text.append('b');
            }
        }
        return text.toString();
    }

    public int night(int what) throws IllegalArgumentException {
        switch (what) {
            case 0: return night;
            case 1: return hour;
            case 2: return gates.size();
            case 3: return sleepers.size();
            case 4: return awakeOnes();
            case 5: return parts.size();
            case 6: return partsOfFate(DECLARED);
            case 7: return partsOfFate(EXEMPT);
            case 8: return partsOfFate(CAUGHT);
            case 9: return partsOfFate(SLIPPED);
            case 10: return partsOfFate(TURNED_BACK);
            case 11: return goneParts();
            case 12: return hidings.size();
            case 13: return row.drawn;
            case 14: return yawns;
            case 15: return dutiesOfAll();
            case 16: return finesOfAll();
            default: throw new IllegalArgumentException("nothing of the night has that number");
        }
    }

    // ---- what would be

    public int way(int from, int to) throws IndexOutOfBoundsException {
        Land start = landNumbered(from);
        Land end = landNumbered(to);
        findArrivals(start);
        return arrivals[end.number];
    }

    public int plan(int promise, int gate) throws IndexOutOfBoundsException, IllegalArgumentException {
        if (gate != NONE) {
            gateNumbered(gate);
        }
        demandRange(promise, 0, MOST_PROMISE);
        findMostCaught();
        int sum = leastSum(promise);
        return sum == NONE || gate == NONE ? sum : plannedOdds(promise, sum, gate);
    }

    public int wouldPay(int gate) throws IndexOutOfBoundsException {
        Gate there = gateNumbered(gate);
        if (there.line.isEmpty()) {
            return 0;
        }
        Sleeper first = there.line.get(0);
        if (!passIsGood(first, there)) {
            return 0;
        }
        Land to = there.across(first.land);
        return to.dutyOn(worthOf(partsThatComeIn(first, to)));
    }

    public boolean isSound() {
        if (quotasOfAll() != QUOTAS_TOGETHER || hidings.size() > MOST_HIDINGS) {
            return false;
        }
        for (int k = 0; k < sleepers.size(); k++) {
            if (!sleeperIsSound(sleepers.get(k))) {
                return false;
            }
        }
        for (int k = 0; k < gates.size(); k++) {
            if (!gates.get(k).babiesAreAhead()) {
                return false;
            }
        }
        return true;
    }

    public long digest() {
        long d = 6007;
        for (int what = 0; what <= 16; what++) {
            d = d * 31 + night(what);
        }
        for (int land = 0; land < LANDS; land++) {
            for (int what = 0; what <= 8; what++) {
                d = d * 31 + ofLand(land, what);
            }
        }
        for (int gate = 0; gate < gates.size(); gate++) {
            for (int what = 2; what <= 9; what++) {
                d = d * 31 + ofGate(gate, what);
            }
            d = d * 31 + wouldPay(gate);
        }
        for (int sleeper = 0; sleeper < sleepers.size(); sleeper++) {
            for (int what = 0; what <= 8; what++) {
                d = d * 31 + ofSleeper(sleeper, what);
            }
        }
        for (int part = 0; part < parts.size(); part++) {
            for (int what = 3; what <= 5; what++) {
                d = d * 31 + ofPart(part, what);
            }
        }
        for (int land = 0; land < LANDS; land++) {
            d = d * 31 + way(0, land);
        }
        d = d * 31 + plan(DIGEST_PROMISE, NONE);
        return d * 31 + (isSound() ? 1 : 0);
    }

    // ---- numbers that callers give

    private Land landNumbered(int number) {
        if (number < 0 || number >= LANDS) {
            throw new IndexOutOfBoundsException("no such LAND");
        }
        return lands[number];
    }

    private Gate gateNumbered(int number) {
        if (number < 0 || number >= gates.size()) {
            throw new IndexOutOfBoundsException("no such GATE");
        }
        return gates.get(number);
    }

    private Sleeper sleeperNumbered(int number) {
        if (number < 0 || number >= sleepers.size()) {
            throw new IndexOutOfBoundsException("no such SLEEPER");
        }
        return sleepers.get(number);
    }

    private Part partNumbered(int number) {
        if (number < 0 || number >= parts.size()) {
            throw new IndexOutOfBoundsException("no such PART");
        }
        return parts.get(number);
    }

    private static void demandRange(int value, int least, int most) {
        if (value < least || value > most) {
            throw new IllegalArgumentException("a number is outside its range");
        }
    }

    // ---- passes

    private static int rightVerse(Sleeper sleeper, Gate gate, int night) {
        return (13 * sleeper.number + 29 * gate.number + 7 * night) % VERSES;
    }

    private boolean passIsGood(Sleeper sleeper, Gate gate) {
        Pass shown = sleeper.pass;
        if (shown == null || shown.gate != gate || shown.night != night) {
            return false;
        }
        int off = Math.abs(shown.verse - rightVerse(sleeper, gate, night));
        return gate.dozes() ? off <= 1 : off == 0 && !gate.revoked.has(shown.verse);
    }

    // ---- a yawn

    private int comeThrough(Sleeper sleeper, Gate gate) {
        Land to = gate.across(sleeper.land);
        // The number is drawn whatever the SLEEPER hides.
        boolean isSearched = !gate.dozes() && row.draw() % 10 < gate.odds;
        int caught = bringHidden(sleeper, to, isSearched);
        bringDeclared(sleeper, to);
        sleeper.land = to;
        sleeper.pass = null;
        return caught;
    }

    private int bringHidden(Sleeper sleeper, Land to, boolean isSearched) {
        int caught = 0;
        for (int k = 0; k < parts.size(); k++) {
            Part part = parts.get(k);
            if (part.head != sleeper || !part.isHidden()) {
                continue;
            }
            keepHiding(sleeper, part.dream);
            part.bringer = sleeper;
            if (isSearched) {
                part.putInStore(to, CAUGHT);
                to.fines += part.worth;
                caught++;
            } else {
                part.fate = SLIPPED;
            }
        }
        return caught;
    }

    private void bringDeclared(Sleeper sleeper, Land to) {
        int in = partsThatComeIn(sleeper, to);
        int worth = worthOf(in);
        int fate = worth <= to.allowance ? EXEMPT : DECLARED;
        for (int k = 0; k < parts.size(); k++) {
            Part part = parts.get(k);
            if (!part.isIn(sleeper.declares)) {
                continue;
            }
            if (!part.isIn(in)) {
                part.putInStore(sleeper.land, TURNED_BACK);
                continue;
            }
            part.fate = fate;
            if (part.isNightmare()) {
                to.nightmares++;
            }
        }
        to.duties += to.dutyOn(worth);
    }

    /** The set of those DECLARED PARTS that the QUOTA does not turn back. */
    private int partsThatComeIn(Sleeper sleeper, Land to) {
        int in = 0;
        int nightmares = to.nightmares;
        for (int k = 0; k < parts.size(); k++) {
            Part part = parts.get(k);
            if (!part.isIn(sleeper.declares) || part.isNightmare() && nightmares >= to.quota) {
                continue;
            }
            in |= 1 << part.number;
            if (part.isNightmare()) {
                nightmares++;
            }
        }
        return in;
    }

    private int worthOf(int set) {
        int worth = 0;
        for (int k = 0; k < parts.size(); k++) {
            Part part = parts.get(k);
            if (part.isIn(set)) {
                worth += part.worth;
            }
        }
        return worth;
    }

    private void tireThoseWhoStand(Gate gate) {
        // From the end on, as one who steps out moves up all who stand behind.
        for (int place = gate.line.size() - 1; place >= 0; place--) {
            Sleeper standing = gate.line.get(place);
            standing.patience--;
            if (standing.patience <= 0) {
                gate.line.remove(place);
                wake(standing);
            }
        }
    }

    private void wake(Sleeper sleeper) {
        sleeper.stepOut(AWAKE);
        for (int k = 0; k < parts.size(); k++) {
            Part part = parts.get(k);
            if (part.head == sleeper) {
                part.head = null;
            }
        }
    }

    // ---- hours

    private void beginHour() {
        hour++;
        if (hour == HOURS_OF_A_NIGHT) {
            hour = 0;
            beginNight();
        }
        spreadRevoked();
        for (int k = 0; k < gates.size(); k++) {
            Gate gate = gates.get(k);
            gate.watch = gate.isOpenAt(hour) ? gate.watch + 1 : 0;
        }
    }

    private void beginNight() {
        night++;
        for (Land land : lands) {
            land.nightmares = 0;
        }
        for (int k = 0; k < sleepers.size(); k++) {
            Sleeper sleeper = sleepers.get(k);
            if (sleeper.pass != null && sleeper.pass.night < night) {
                sleeper.pass = null;
            }
        }
    }

    private void spreadRevoked() {
        for (int k = 0; k < gates.size(); k++) {
            Gate gate = gates.get(k);
            for (int j = 0; j < gates.size(); j++) {
                Gate near = gates.get(j);
                if (gate.isAt(near.one) || gate.isAt(near.other)) {
                    gate.arriving.putAll(near.revoked);
                }
            }
        }
        // Only now, as what comes to a GATE in this HOUR goes on from it in the next one.
        for (int k = 0; k < gates.size(); k++) {
            Gate gate = gates.get(k);
            gate.revoked.putAll(gate.arriving);
        }
    }

    // ---- hidings and rings

    private void keepHiding(Sleeper sleeper, int dream) {
        if (hidings.size() >= MOST_HIDINGS) {
            return;
        }
        for (int k = 0; k < hidings.size(); k++) {
            Hiding earlier = hidings.get(k);
            if (earlier.dream == dream && night - earlier.night <= LINKING_NIGHTS) {
                earlier.sleeper.links |= 1 << sleeper.number;
                sleeper.links |= 1 << earlier.sleeper.number;
            }
        }
        hidings.add(new Hiding(sleeper, dream, night));
    }

    private int ringOf(Sleeper sleeper) {
        int ring = 1 << sleeper.number;
        // Each round but the last one adds somebody, so there are no more rounds than SLEEPERS.
        for (int round = 0; round < MOST_SLEEPERS; round++) {
            int wider = ring | linksOf(ring);
            if (wider == ring) {
                break;
            }
            ring = wider;
        }
        return ring;
    }

    private int linksOf(int set) {
        int links = 0;
        for (int k = 0; k < sleepers.size(); k++) {
            if ((set >> k & 1) != 0) {
                links |= sleepers.get(k).links;
            }
        }
        return links;
    }

    private int hidingsOf(Sleeper sleeper) {
        int many = 0;
        for (int k = 0; k < hidings.size(); k++) {
            if (hidings.get(k).sleeper == sleeper) {
                many++;
            }
        }
        return many;
    }

    // ---- what lands, heads and queues hold

    private int partsInStore(Land land) {
        int many = 0;
        for (int k = 0; k < parts.size(); k++) {
            if (parts.get(k).store == land) {
                many++;
            }
        }
        return many;
    }

    private int sleepersIn(Land land) {
        int many = 0;
        for (int k = 0; k < sleepers.size(); k++) {
            Sleeper sleeper = sleepers.get(k);
            if (sleeper.land == land && sleeper.state != AWAKE) {
                many++;
            }
        }
        return many;
    }

    private int wholeDreams(Land land) {
        int here = 0;
        int elsewhere = 0;
        for (int k = 0; k < parts.size(); k++) {
            Part part = parts.get(k);
            if (part.whereabouts() == land) {
                here |= 1 << part.dream;
            } else {
                elsewhere |= 1 << part.dream;
            }
        }
        return here & ~elsewhere;
    }

    private int headOf(Sleeper sleeper) {
        int set = 0;
        for (int k = 0; k < parts.size(); k++) {
            Part part = parts.get(k);
            if (part.head == sleeper) {
                set |= 1 << part.number;
            }
        }
        return set;
    }

    private int hiddenWorth(Gate gate) {
        int worth = 0;
        for (int k = 0; k < parts.size(); k++) {
            Part part = parts.get(k);
            if (part.head != null && part.head.gate == gate && part.isHidden()) {
                worth += part.worth;
            }
        }
        return worth;
    }

    private static int placeOf(Sleeper sleeper) {
        if (sleeper.gate == null) {
            return NONE;
        }
        ArrayList<Sleeper> line = sleeper.gate.line;
        for (int place = 0; place < line.size(); place++) {
            if (line.get(place) == sleeper) {
                return place;
            }
        }
        return NONE;
    }

    // ---- what the whole night holds

    private int awakeOnes() {
        int many = 0;
        for (int k = 0; k < sleepers.size(); k++) {
            if (sleepers.get(k).state == AWAKE) {
                many++;
            }
        }
        return many;
    }

    private int partsOfFate(int fate) {
        int many = 0;
        for (int k = 0; k < parts.size(); k++) {
            if (parts.get(k).fate == fate) {
                many++;
            }
        }
        return many;
    }

    private int goneParts() {
        int many = 0;
        for (int k = 0; k < parts.size(); k++) {
            if (parts.get(k).whereabouts() == null) {
                many++;
            }
        }
        return many;
    }

    private int dutiesOfAll() {
        int sum = 0;
        for (Land land : lands) {
            sum += land.duties;
        }
        return sum;
    }

    private int finesOfAll() {
        int sum = 0;
        for (Land land : lands) {
            sum += land.fines;
        }
        return sum;
    }

    private int quotasOfAll() {
        int sum = 0;
        for (Land land : lands) {
            sum += land.quota;
        }
        return sum;
    }

    private boolean sleeperIsSound(Sleeper sleeper) {
        int places = 0;
        for (int k = 0; k < gates.size(); k++) {
            int here = gates.get(k).timesInLine(sleeper);
            if (here > 0 && !gates.get(k).isAt(sleeper.land)) {
                return false;
            }
            places += here;
        }
        if (places != (sleeper.state == IN_QUEUE ? 1 : 0)) {
            return false;
        }
        if (sleeper.patience < 0 || sleeper.patience > MOST_PATIENCE) {
            return false;
        }
        return sleeper.state != AWAKE || headOf(sleeper) == 0;
    }

    // ---- ways

    private void findArrivals(Land start) {
        for (int k = 0; k < LANDS; k++) {
            arrivals[k] = k == start.number ? 0 : NONE;
        }
        for (int begun = 0; begun < LONGEST_WAY; begun++) {
            for (int k = 0; k < gates.size(); k++) {
                Gate gate = gates.get(k);
                if (gate.isOpenAt((hour + begun) % HOURS_OF_A_NIGHT)) {
                    cross(gate.one.number, gate.other.number, begun);
                    cross(gate.other.number, gate.one.number, begun);
                }
            }
        }
    }

    private void cross(int from, int to, int begun) {
        boolean isThere = arrivals[from] != NONE && arrivals[from] <= begun;
        if (isThere && arrivals[to] == NONE) {
            arrivals[to] = begun + 1;
        }
    }

    // ---- plans

    /** Fills mostCaught[g][sum]: what the GATES from g on can catch together with no more than that sum of ODDS. */
    private void findMostCaught() {
        int many = gates.size();
        for (int sum = 0; sum < mostCaught[many].length; sum++) {
            mostCaught[many][sum] = 0;
        }
        for (int g = many - 1; g >= 0; g--) {
            int hidden = hiddenWorth(gates.get(g));
            for (int sum = 0; sum < mostCaught[g].length; sum++) {
                mostCaught[g][sum] = mostCaughtFrom(g, hidden, sum);
            }
        }
    }

    private int mostCaughtFrom(int gate, int hidden, int sum) {
        int[] behind = mostCaught[gate + 1];
        int most = behind[sum];
        // ODDS where nothing is hidden catch nothing.
        int limit = hidden == 0 ? 0 : Math.min(sum, MOST_ODDS);
        for (int odds = 1; odds <= limit; odds++) {
            most = Math.max(most, behind[sum - odds] + catchOf(hidden, odds));
        }
        return most;
    }

    private static int catchOf(int hidden, int odds) {
        return hidden * odds / 10;
    }

    private int leastSum(int promise) {
        int[] ofAll = mostCaught[0];
        for (int sum = 0; sum < ofAll.length; sum++) {
            if (ofAll[sum] >= promise) {
                return sum;
            }
        }
        return NONE;
    }

    private int plannedOdds(int promise, int sum, int gate) {
        int owed = promise;
        int left = sum;
        int planned = 0;
        for (int g = 0; g <= gate; g++) {
            int hidden = hiddenWorth(gates.get(g));
            planned = leastOdds(g, hidden, owed, left);
            owed -= catchOf(hidden, planned);
            left -= planned;
        }
        return planned;
    }

    private int leastOdds(int gate, int hidden, int owed, int left) {
        int limit = Math.min(left, MOST_ODDS);
        for (int odds = 0; odds < limit; odds++) {
            if (catchOf(hidden, odds) + mostCaught[gate + 1][left - odds] >= owed) {
                return odds;
            }
        }
        return limit;
    }

    // ---- what there is

    private static final class Land {
        final int number;
        int rate = 10;
        int allowance = 20;
        int quota = 5;
        int nightmares;
        int duties;
        int fines;

        Land(int number) {
            this.number = number;
        }

        int dutyOn(int worth) {
            return worth <= allowance ? 0 : (worth - allowance) * rate / 100;
        }
    }

    private static final class Gate {
        private static final int DOZING_WATCH = 5;

        final int number;
        final Land one;
        final Land other;
        final int from;
        final int hours;
        final ArrayList<Sleeper> line = new ArrayList<Sleeper>();
        final Verses revoked = new Verses();
        final Verses arriving = new Verses();
        int odds = 5;
        int watch;

        Gate(int number, Land one, Land other, int from, int hours) {
            this.number = number;
            this.one = one;
            this.other = other;
            this.from = from;
            this.hours = hours;
        }

        boolean isOpenAt(int hour) {
            return (hour - from + HOURS_OF_A_NIGHT) % HOURS_OF_A_NIGHT < hours;
        }

        boolean dozes() {
            return watch >= DOZING_WATCH;
        }

        boolean isAt(Land land) {
            return land == one || land == other;
        }

        Land across(Land land) {
            return land == one ? other : one;
        }

        int babiesInLine() {
            int many = 0;
            for (int place = 0; place < line.size(); place++) {
                if (line.get(place).isBaby) {
                    many++;
                }
            }
            return many;
        }

        boolean babiesAreAhead() {
            for (int place = 1; place < line.size(); place++) {
                if (line.get(place).isBaby && !line.get(place - 1).isBaby) {
                    return false;
                }
            }
            return true;
        }

        int timesInLine(Sleeper sleeper) {
            int times = 0;
            for (int place = 0; place < line.size(); place++) {
                if (line.get(place) == sleeper) {
                    times++;
                }
            }
            return times;
        }
    }

    /** A set of VERSES. */
    private static final class Verses {
        private static final int LOW_ONES = 64;

        long low;
        long high;

        boolean has(int verse) {
            long half = verse < LOW_ONES ? low >>> verse : high >>> verse - LOW_ONES;
            return (half & 1L) != 0;
        }

        void put(int verse) {
            if (verse < LOW_ONES) {
                low |= 1L << verse;
            } else {
                high |= 1L << verse - LOW_ONES;
            }
        }

        void putAll(Verses more) {
            low |= more.low;
            high |= more.high;
        }

        int size() {
            return Long.bitCount(low) + Long.bitCount(high);
        }
    }

    private static final class Pass {
        final Gate gate;
        final int night;
        final int verse;

        Pass(Gate gate, int night, int verse) {
            this.gate = gate;
            this.night = night;
            this.verse = verse;
        }
    }

    private static final class Sleeper {
        final int number;
        final boolean isBaby;
        Land land;
        int patience;
        int state = AT_REST;
        /** The GATE in whose QUEUE it stands, or null. */
        Gate gate;
        int declares;
        Pass pass;
        /** The set of the SLEEPERS that it is LINKED with. */
        int links;

        Sleeper(int number, Land land, boolean isBaby, int patience) {
            this.number = number;
            this.land = land;
            this.isBaby = isBaby;
            this.patience = patience;
        }

        void standAt(Gate there, int declared) {
            state = IN_QUEUE;
            gate = there;
            declares = declared;
        }

        void stepOut(int newState) {
            state = newState;
            gate = null;
            declares = 0;
        }
    }

    /** A PART without a HEAD and without a STORE is GONE. */
    private static final class Part {
        private static final int NIGHTMARE_DREAD = 5;

        final int number;
        final int dream;
        final int worth;
        final int dread;
        int fate;
        Sleeper head;
        Land store;
        /** Who last brought it HIDDEN through a GATE, or null. */
        Sleeper bringer;

        Part(int number, Sleeper head, int dream, int worth, int dread) {
            this.number = number;
            this.head = head;
            this.dream = dream;
            this.worth = worth;
            this.dread = dread;
        }

        boolean isNightmare() {
            return dread >= NIGHTMARE_DREAD;
        }

        boolean isIn(int set) {
            return (set >> number & 1) != 0;
        }

        /** Whether the one in whose HEAD it is does not declare it. */
        boolean isHidden() {
            return head != null && !isIn(head.declares);
        }

        Land whereabouts() {
            if (store != null) {
                return store;
            }
            return head == null ? null : head.land;
        }

        void putInStore(Land land, int newFate) {
            head = null;
            store = land;
            fate = newFate;
        }
    }

    private static final class Hiding {
        final Sleeper sleeper;
        final int dream;
        final int night;

        Hiding(Sleeper sleeper, int dream, int night) {
            this.sleeper = sleeper;
            this.dream = dream;
            this.night = night;
        }
    }

    private static final class Row {
        int drawn;
        private int next = 3;

        int draw() {
            int number = next;
            next = (21 * number + 11) % 4096;
            drawn++;
            return number;
        }
    }
}
