import java.util.ArrayList;
import java.util.Arrays;

/** A cellar of wine by its parts. What each call promises stands in DOC.md. */
public final class BlendCellar {
    private static final int OAK = 1;
    private static final int NEW = 2;
    private static final int STEEL = 3;
    private static final int GLASS = 4;
    private static final int CASK = 5;

    private static final int BAD_NUMBER = 1;
    private static final int NOTHING_THERE = 2;
    private static final int BEYOND = 3;
    private static final int WRONG_KIND = 4;
    private static final int BY_NOUGHT = 5;
    private static final int NO_ROW = 6;
    private static final int BELOW_NOUGHT = 7;
    private static final int TAKEN = 8;
    private static final int NOT_FREE = 9;
    private static final int TOO_LITTLE = 10;
    private static final int NO_ROOM = 11;
    private static final int FULL = 12;
    private static final int SAME = 13;
    private static final int NONE = 14;

    private static final int FILLED_IN = 0;
    private static final int BREATHED_AWAY = 1;
    private static final int TASTED = 2;
    private static final int SPILT = 3;
    private static final int IN_BOTTLES = 4;
    private static final int ACCOUNTS = 5;

    private static final int FILL = 1;
    private static final int RACK = 2;
    private static final int TOP_UP = 3;
    private static final int BLEND = 4;
    private static final int BREATHE = 5;
    private static final int BOTTLE = 6;
    private static final int TASTING = 7;
    private static final int SPILLING = 8;
    private static final int WASH = 9;

    private static final int HOLDS = 1;
    private static final int FAILS = 0;
    private static final int SHARED_BY_NOUGHT = -1;

    private static final int MOST_BARRELS = 1000;
    private static final int MOST_ROWS = 20;
    private static final int MOST_PLACES = 60;
    private static final int MOST_PARTS = 60;
    private static final int MOST_MEMBERS = 4;
    private static final int MOST_LABELS = 40;
    private static final int MOST_RULES = 20;
    private static final int MOST_PICKED = 8;
    private static final int MOST_PLANNED = 6;
    private static final int MOST_STEPS = 12;
    // From no step at all to the most.
    private static final int STEP_SLOTS = MOST_STEPS + 1;
    private static final int MOST_TRACED = 200;
    private static final int LAST_PART = 4095;
    private static final int MOST_SIZE = 1000000000;
    private static final int MOST_CENTS = 1000000;
    private static final int MOST_BOTTLES = 1000000;
    private static final long MOST_ML = 1000000000L;
    private static final int IN_CASK = 10000;
    private static final int NO_NUMBER = -1;

    private final ArrayList<Barrel> barrels = new ArrayList<>();
    private final Row[] rows = new Row[MOST_ROWS];
    private final ArrayList<Label> labels = new ArrayList<>();
    private final Picks picks = new Picks();
    private final Tally judged = new Tally(1);
    private final Planner planner = new Planner();
    private final Wine[] accounts = new Wine[ACCOUNTS];
    private final Wine balance = new Wine();
    private final Lines journal = new Lines();
    private final Lines bottled = new Lines();
    private final Drawing drawing = new Drawing();
    private final Before before = new Before();
    private final Trace bodies = new Trace(MOST_TRACED);
    // What is drawn in thought by a plan runs bodies, too, but nobody is told of these.
    private final Trace unheard = new Trace(0);
    private int months = 0;
    private long numbersGiven = 0;
    private int triesMade = 0;
    private boolean tapOpen = false;
    private int reason = 0;
    private int brokenRule = NO_NUMBER;

    public BlendCellar() {
        for (int how = 0; how < ACCOUNTS; how++) {
            accounts[how] = new Wine();
        }
    }

    // ---- rows and barrels

    public long row(int r, int kind, int n) {
        openTap();
        return closeTap(buildRow(r, kind, n));
    }

    private long buildRow(int r, int kind, int n) {
        if (kind < 0 || kind > 6 || n > MOST_PLACES) {
            return -BAD_NUMBER;
        }
        if (r < 0 || r >= MOST_ROWS) {
            return -BEYOND;
        }
        if (rows[r] != null) {
            return -TAKEN;
        }
        if (n < 0) {
            return -BELOW_NOUGHT;
        }
        remember();
        before.keepRow(r);
        rows[r] = new Row(kind, n);
        return n;
    }

    public long barrel(int kind, int size, int cents) {
        openTap();
        return closeTap(makeBarrel(kind, size, cents));
    }

    private long makeBarrel(int kind, int size, int cents) {
        if (kind < OAK || kind > CASK || !isCents(cents)) {
            return -BAD_NUMBER;
        }
        if (kind != CASK && (size < 1 || size > MOST_SIZE)) {
            return -BAD_NUMBER;
        }
        int number = barrels.size();
        if (number >= MOST_BARRELS) {
            return -FULL;
        }
        remember();
        barrels.add(new Barrel(number, kind, kind == CASK ? 0 : size, cents));
        return number;
    }

    public long join(int c, int b) {
        openTap();
        return closeTap(joinCask(c, b));
    }

    private long joinCask(int c, int b) {
        int bad = firstOf(lookUpCask(c), lookUpVessel(b));
        if (bad != 0) {
            return -bad;
        }
        Barrel cask = barrels.get(c);
        Barrel vessel = barrels.get(b);
        if (!vessel.onFloor()) {
            return -NOT_FREE;
        }
        if (cask.memberCount >= MOST_MEMBERS) {
            return -FULL;
        }
        remember();
        before.keepBarrel(cask);
        before.keepBarrel(vessel);
        cask.takeIn(vessel);
        return cask.memberCount;
    }

    public long leave(int c) {
        openTap();
        return closeTap(leaveCask(c));
    }

    private long leaveCask(int c) {
        int bad = lookUpCask(c);
        if (bad != 0) {
            return -bad;
        }
        Barrel cask = barrels.get(c);
        if (cask.memberCount == 0) {
            return -BEYOND;
        }
        Barrel vessel = cask.members[cask.memberCount - 1];
        remember();
        before.keepBarrel(cask);
        before.keepBarrel(vessel);
        cask.memberCount--;
        vessel.place = 0;
        return vessel.number;
    }

    public long lay(int b, int r, int p) {
        openTap();
        return closeTap(layBarrel(b, r, p));
    }

    private long layBarrel(int b, int r, int p) {
        int bad = lookUp(b);
        if (bad != 0) {
            return -bad;
        }
        Barrel barrel = barrels.get(b);
        if (!barrel.onFloor()) {
            return -NOT_FREE;
        }
        bad = readPlace(r, p);
        if (bad != 0) {
            return -bad;
        }
        Row row = rows[r];
        if (row.places[p] != NO_NUMBER) {
            return -TAKEN;
        }
        if (!row.takes(barrel.kind)) {
            return -WRONG_KIND;
        }
        remember();
        before.keepBarrel(barrel);
        before.keepPlace(r, p, NO_NUMBER);
        row.places[p] = b;
        barrel.place = placeCode(r, p);
        return b;
    }

    public long lift(int r, int p) {
        openTap();
        return closeTap(liftBarrel(r, p));
    }

    private long liftBarrel(int r, int p) {
        int bad = readPlace(r, p);
        if (bad != 0) {
            return -bad;
        }
        int b = rows[r].places[p];
        Barrel barrel = find(b);
        if (barrel == null) {
            return -NOTHING_THERE;
        }
        remember();
        before.keepBarrel(barrel);
        before.keepPlace(r, p, b);
        rows[r].places[p] = NO_NUMBER;
        barrel.place = 0;
        return b;
    }

    public long worth(int b, int cents) {
        openTap();
        return closeTap(tellCents(b, cents));
    }

    private long tellCents(int b, int cents) {
        if (!isCents(cents)) {
            return -BAD_NUMBER;
        }
        int bad = lookUp(b);
        if (bad != 0) {
            return -bad;
        }
        Barrel barrel = barrels.get(b);
        int old = barrel.cents;
        remember();
        before.keepBarrel(barrel);
        barrel.cents = cents;
        return old;
    }

    // ---- wine

    public long fill(int b, int part, long ml) {
        openTap();
        return closeTap(fillVessel(b, part, ml));
    }

    private long fillVessel(int b, int part, long ml) {
        if (part < 0 || part > LAST_PART || !isMl(ml)) {
            return -BAD_NUMBER;
        }
        int bad = lookUpFreeVessel(b);
        if (bad != 0) {
            return -bad;
        }
        Barrel vessel = barrels.get(b);
        Wine wine = vessel.wine;
        if (wine.total + ml > vessel.takesInAll(bodies)) {
            return -NO_ROOM;
        }
        if (wine.count >= MOST_PARTS && wine.amountOf(part) == 0) {
            return -FULL;
        }
        remember();
        before.keepBarrel(vessel);
        before.keepAccount(FILLED_IN, accounts[FILLED_IN]);
        wine.add(part, ml);
        accounts[FILLED_IN].add(part, ml);
        journal.add(FILL, NO_NUMBER, b, ml);
        return wine.total;
    }

    public long rack(int from, int to, long ml) {
        openTap();
        return closeTap(rackWine(from, to, ml));
    }

    private long rackWine(int from, int to, long ml) {
        if (!isMl(ml)) {
            return -BAD_NUMBER;
        }
        int bad = firstOf(lookUp(from), lookUpVessel(to));
        if (bad == 0) {
            bad = checkPair(from, to);
        }
        if (bad != 0) {
            return -bad;
        }
        Barrel source = barrels.get(from);
        Barrel vessel = barrels.get(to);
        if (ml > source.maySpare(bodies)) {
            return -TOO_LITTLE;
        }
        if (vessel.wine.total + ml > vessel.takesInAll(bodies)) {
            return -NO_ROOM;
        }
        drawing.clear();
        drawing.drawFrom(source, ml, bodies);
        if (hasTooManyPartsFor(vessel)) {
            return -FULL;
        }
        remember();
        pourInto(vessel);
        journal.add(RACK, from, to, ml);
        return vessel.wine.total;
    }

    public long topUp(int to, int from) {
        openTap();
        return closeTap(topUpVessel(to, from));
    }

    private long topUpVessel(int to, int from) {
        int bad = firstOf(lookUpVessel(to), lookUp(from));
        if (bad == 0) {
            bad = checkPair(from, to);
        }
        if (bad != 0) {
            return -bad;
        }
        Barrel vessel = barrels.get(to);
        Barrel source = barrels.get(from);
        long wanting = vessel.takesInAll(bodies) - vessel.wine.total;
        long spare = source.maySpare(bodies);
        if (wanting <= 0) {
            return -NO_ROOM;
        }
        if (spare == 0) {
            return -TOO_LITTLE;
        }
        long ml = Math.min(wanting, spare);
        drawing.clear();
        drawing.drawFrom(source, ml, bodies);
        if (hasTooManyPartsFor(vessel)) {
            return -FULL;
        }
        remember();
        pourInto(vessel);
        journal.add(TOP_UP, from, to, ml);
        return ml;
    }

    public long pick(int b, long ml) {
        openTap();
        return closeTap(pickBarrel(b, ml));
    }

    private long pickBarrel(int b, long ml) {
        if (!isMl(ml)) {
            return -BAD_NUMBER;
        }
        int bad = lookUp(b);
        if (bad != 0) {
            return -bad;
        }
        if (picks.has(b)) {
            return -SAME;
        }
        if (picks.count >= MOST_PICKED) {
            return -FULL;
        }
        picks.add(barrels.get(b), ml);
        return picks.count;
    }

    public long forget() {
        openTap();
        int were = picks.count;
        picks.clear();
        return closeTap(were);
    }

    public long blend(int to) {
        openTap();
        return closeTap(blendInto(to));
    }

    private long blendInto(int to) {
        if (picks.count == 0) {
            return -TOO_LITTLE;
        }
        int bad = lookUpVessel(to);
        if (bad != 0) {
            return -bad;
        }
        if (picks.has(to)) {
            return -SAME;
        }
        Barrel vessel = barrels.get(to);
        if (vessel.inCask() || picks.anyInCask()) {
            return -NOT_FREE;
        }
        if (!picks.allSpared(bodies)) {
            return -TOO_LITTLE;
        }
        long sum = picks.sum();
        if (vessel.wine.total + sum > vessel.takesInAll(bodies)) {
            return -NO_ROOM;
        }
        drawPicked();
        if (hasTooManyPartsFor(vessel)) {
            return -FULL;
        }
        remember();
        pourInto(vessel);
        for (int i = 0; i < picks.count; i++) {
            journal.add(BLEND, picks.barrels[i].number, to, picks.amounts[i]);
        }
        picks.clear();
        return sum;
    }

    private void drawPicked() {
        drawing.clear();
        for (int i = 0; i < picks.count; i++) {
            drawing.drawFrom(picks.barrels[i], picks.amounts[i], bodies);
        }
    }

    public long breathe(int m) {
        openTap();
        return closeTap(letMonthsGoBy(m));
    }

    private long letMonthsGoBy(int m) {
        if (m < 1 || m > 12) {
            return -BAD_NUMBER;
        }
        remember();
        before.keepAccount(BREATHED_AWAY, accounts[BREATHED_AWAY]);
        long gone = 0;
        for (int b = 0; b < barrels.size(); b++) {
            Barrel barrel = barrels.get(b);
            long rate = barrel.breathes(bodies);
            if (rate > 0 && barrel.wine.total > 0) {
                gone += breatheAway(barrel, rate, m);
            }
        }
        months += m;
        journal.add(BREATHE, NO_NUMBER, NO_NUMBER, gone);
        return gone;
    }

    private long breatheAway(Barrel vessel, long rate, int m) {
        before.keepBarrel(vessel);
        long gone = 0;
        for (int i = 0; i < m; i++) {
            long ml = vessel.wine.total * rate / 10000;
            drawing.takeOut(vessel.wine, ml, accounts[BREATHED_AWAY]);
            gone += ml;
        }
        return gone;
    }

    public long bottle(int b, int n, long all) {
        openTap();
        return closeTap(fillBottles(b, n, all));
    }

    private long fillBottles(int b, int n, long all) {
        if (n < 0 || n > MOST_BOTTLES || !isMl(all)) {
            return -BAD_NUMBER;
        }
        int bad = lookUp(b);
        if (bad != 0) {
            return -bad;
        }
        Barrel barrel = barrels.get(b);
        if (barrel.inCask()) {
            return -NOT_FREE;
        }
        if (all > barrel.maySpare(bodies)) {
            return -TOO_LITTLE;
        }
        if (n == 0) {
            return -BY_NOUGHT;
        }
        long each = all / n;
        if (each == 0) {
            return -TOO_LITTLE;
        }
        drawOff(barrel, each * n, IN_BOTTLES);
        numbersGiven++;
        bottled.add(numbersGiven, b, n, each);
        journal.add(BOTTLE, b, NO_NUMBER, each * n);
        return numbersGiven;
    }

    public long drain(int b, long ml, int how) {
        openTap();
        return closeTap(drainVessel(b, ml, how));
    }

    private long drainVessel(int b, long ml, int how) {
        if (how < 1 || how > 2 || !isMl(ml)) {
            return -BAD_NUMBER;
        }
        int bad = lookUpFreeVessel(b);
        if (bad != 0) {
            return -bad;
        }
        Barrel vessel = barrels.get(b);
        if (vessel.wine.total == 0) {
            return -NOTHING_THERE;
        }
        if (vessel.wine.total < ml) {
            return -TOO_LITTLE;
        }
        drawOff(vessel, ml, how == 1 ? TASTED : SPILT);
        journal.add(how == 1 ? TASTING : SPILLING, b, NO_NUMBER, ml);
        return vessel.wine.total;
    }

    public long wash(int b) {
        openTap();
        return closeTap(washVessel(b));
    }

    private long washVessel(int b) {
        int bad = lookUpFreeVessel(b);
        if (bad != 0) {
            return -bad;
        }
        Barrel vessel = barrels.get(b);
        long had = vessel.wine.total;
        drawOff(vessel, had, SPILT);
        journal.add(WASH, b, NO_NUMBER, had);
        return had;
    }

    public long partAt(int b, int i) {
        openTap();
        int bad = lookUpPart(b, i);
        return closeTap(bad != 0 ? -bad : barrels.get(b).wine.parts[i]);
    }

    public long amountAt(int b, int i) {
        openTap();
        int bad = lookUpPart(b, i);
        return closeTap(bad != 0 ? -bad : barrels.get(b).wine.amounts[i]);
    }

    public long room(int b) {
        openTap();
        int bad = lookUp(b);
        return closeTap(bad != 0 ? -bad : roomOf(barrels.get(b)));
    }

    private long roomOf(Barrel barrel) {
        return barrel.takesInAll(bodies) - barrel.has();
    }

    // ---- labels

    public long label() {
        openTap();
        return closeTap(makeLabel());
    }

    private long makeLabel() {
        int number = labels.size();
        if (number >= MOST_LABELS) {
            return -FULL;
        }
        labels.add(new Label());
        return number;
    }

    public long rule(int l, int op, int dim, int value, int h) {
        openTap();
        return closeTap(makeRule(l, op, dim, value, h));
    }

    private long makeRule(int l, int op, int dim, int value, int h) {
        if (op < 1 || op > Label.EITHER || op != Label.EITHER && !isRuleOver(dim, value, h)) {
            return -BAD_NUMBER;
        }
        int bad = lookUpLabel(l);
        if (bad != 0) {
            return -bad;
        }
        Label label = labels.get(l);
        if (label.made >= MOST_RULES) {
            return -FULL;
        }
        if (op != Label.EITHER) {
            label.addRule(op, dim, value, h);
            return label.ruleCount;
        }
        if (label.ruleCount < 2) {
            return -TOO_LITTLE;
        }
        label.uniteLastTwo();
        return label.ruleCount;
    }

    public long judge(int b, int l) {
        openTap();
        return closeTap(judgeBarrel(b, l));
    }

    private long judgeBarrel(int b, int l) {
        brokenRule = NO_NUMBER;
        int bad = firstOf(lookUp(b), lookUpLabel(l));
        if (bad != 0) {
            return -bad;
        }
        Label label = labels.get(l);
        judged.countAlone(barrels.get(b));
        brokenRule = label.firstBroken(judged);
        if (brokenRule == NO_NUMBER) {
            return 1;
        }
        return label.answerOf(brokenRule, judged) == SHARED_BY_NOUGHT ? -BY_NOUGHT : 0;
    }

    public long plan(int l, long ml, int step) {
        openTap();
        return closeTap(planBlend(l, ml, step));
    }

    private long planBlend(int l, long ml, int step) {
        int bad = firstOf(checkSteps(ml, step), lookUpLabel(l));
        if (bad == 0) {
            bad = checkPicksForPlan();
        }
        if (bad != 0) {
            return -bad;
        }
        int steps = (int) (ml / step);
        planner.begin(labels.get(l), picks.count, ml);
        for (int i = 0; i < picks.count; i++) {
            askForPlan(i, step, steps);
        }
        long least = planner.search(steps);
        if (least < 0) {
            return -NONE;
        }
        planner.settle(step);
        return least;
    }

    private static int checkSteps(long ml, int step) {
        if (!isMl(ml) || step < 0) {
            return BAD_NUMBER;
        }
        if (step == 0) {
            return BY_NOUGHT;
        }
        return ml % step != 0 || ml / step > MOST_STEPS ? BAD_NUMBER : 0;
    }

    private int checkPicksForPlan() {
        if (picks.count == 0) {
            return TOO_LITTLE;
        }
        if (picks.count > MOST_PLANNED) {
            return FULL;
        }
        return picks.anyInCask() ? NOT_FREE : 0;
    }

    private void askForPlan(int i, long step, int steps) {
        Barrel barrel = picks.barrels[i];
        long spare = barrel.maySpare(bodies);
        for (int k = 1; k <= steps; k++) {
            planner.setDear(i, k, barrel.isDear(k * step, bodies));
        }
        for (int k = 1; k <= steps && k * step <= spare; k++) {
            drawing.clear();
            drawing.drawFrom(barrel, k * step, unheard);
            planner.offer(i, k, drawing.drawn);
        }
    }

    public long undo() {
        openTap();
        return closeTap(takeBack());
    }

    private long takeBack() {
        if (!before.ready) {
            return -NONE;
        }
        before.ready = false;
        before.restoreBarrels();
        for (int i = barrels.size() - 1; i >= before.barrelCount; i--) {
            barrels.remove(i);
        }
        restorePlace(before.row, before.place);
        if (before.how != NO_NUMBER) {
            accounts[before.how].copyFrom(before.account);
        }
        months = before.months;
        journal.cutTo(before.journalCount);
        bottled.cutTo(before.bottledCount);
        picks.clear();
        return 1;
    }

    private void restorePlace(int r, int p) {
        if (r == NO_NUMBER) {
            return;
        }
        if (p == NO_NUMBER) {
            rows[r] = null;
        } else if (rows[r] != null) {
            rows[r].places[p] = before.lay;
        }
    }

    // ---- questions: these are no acts

    public int kindOf(int b) {
        Barrel barrel = find(b);
        return barrel == null ? 0 : barrel.kind;
    }

    public int where(int b) {
        Barrel barrel = find(b);
        return barrel == null ? -1 : barrel.place;
    }

    public int at(int r, int p) {
        return readPlace(r, p) != 0 ? -1 : rows[r].places[p];
    }

    public long amount(int b) {
        Barrel barrel = find(b);
        return barrel == null ? 0 : barrel.has();
    }

    public long part(int b, int part) {
        Barrel barrel = find(b);
        return barrel == null ? 0 : barrel.hasOf(part);
    }

    public int parts(int b) {
        Barrel barrel = find(b);
        return barrel == null ? 0 : barrel.countInside();
    }

    public long account(int part, int how) {
        return how < 0 || how >= ACCOUNTS ? 0 : accounts[how].amountOf(part);
    }

    public int odd() {
        balance.copyFrom(accounts[FILLED_IN]);
        for (int how = BREATHED_AWAY; how < ACCOUNTS; how++) {
            balance.subtract(accounts[how]);
        }
        for (int b = 0; b < barrels.size(); b++) {
            balance.subtract(barrels.get(b).wine);
        }
        return balance.countUneven();
    }

    public int strays() {
        for (int b = 0; b < barrels.size(); b++) {
            barrels.get(b).loseSight();
        }
        for (int r = 0; r < MOST_ROWS; r++) {
            seeRow(r);
        }
        for (int b = 0; b < barrels.size(); b++) {
            barrels.get(b).seeMembers();
        }
        int strays = 0;
        for (int b = 0; b < barrels.size(); b++) {
            if (barrels.get(b).isStray()) {
                strays++;
            }
        }
        return strays;
    }

    private void seeRow(int r) {
        if (rows[r] == null) {
            return;
        }
        int[] places = rows[r].places;
        for (int p = 0; p < places.length; p++) {
            Barrel barrel = find(places[p]);
            if (barrel != null) {
                barrel.seeAt(placeCode(r, p));
            }
        }
    }

    public int month() {
        return months;
    }

    public int bottlings() {
        return bottled.count;
    }

    public long bottling(int i, int what) {
        return bottled.read(i, what);
    }

    public int entries() {
        return journal.count;
    }

    public long entry(int i, int what) {
        return journal.read(i, what);
    }

    public int tries() {
        return triesMade;
    }

    public int closed() {
        return tapOpen ? 0 : 1;
    }

    public int why() {
        return reason;
    }

    public int which() {
        return brokenRule;
    }

    public int trace(int i) {
        return bodies.read(i);
    }

    public int picked() {
        return picks.count;
    }

    public long planned(int i) {
        return planner.readSettled(i);
    }

    public long digest() {
        long d = 7 * 31 + barrels.size();
        for (int b = 0; b < barrels.size(); b++) {
            d = barrels.get(b).digestOnto(d);
        }
        d = d * 31 + months;
        return d * 31 + journal.count;
    }

    // ---- the frame of an act

    private void openTap() {
        tapOpen = true;
        triesMade++;
        bodies.clear();
    }

    /** Every answer of an act that was done is 0 or more, so a reason is told by its minus. */
    private long closeTap(long answer) {
        reason = answer < 0 ? (int) -answer : 0;
        tapOpen = false;
        return answer;
    }

    private void remember() {
        before.begin(barrels.size(), months, journal.count, bottled.count);
    }

    // ---- looking up: 0, or the reason why not

    private static int firstOf(int reason, int next) {
        return reason != 0 ? reason : next;
    }

    private int lookUp(int b) {
        if (b < 0 || b >= MOST_BARRELS) {
            return BEYOND;
        }
        return b >= barrels.size() ? NOTHING_THERE : 0;
    }

    private int lookUpVessel(int b) {
        int bad = lookUp(b);
        return bad == 0 && barrels.get(b).kind == CASK ? WRONG_KIND : bad;
    }

    private int lookUpCask(int b) {
        int bad = lookUp(b);
        return bad == 0 && barrels.get(b).kind != CASK ? WRONG_KIND : bad;
    }

    private int lookUpFreeVessel(int b) {
        int bad = lookUpVessel(b);
        return bad == 0 && barrels.get(b).inCask() ? NOT_FREE : bad;
    }

    private int lookUpPart(int b, int i) {
        int bad = lookUpVessel(b);
        if (bad != 0) {
            return bad;
        }
        int count = barrels.get(b).wine.count;
        if (count == 0) {
            return NOTHING_THERE;
        }
        return i < 0 || i >= count ? BEYOND : 0;
    }

    private int lookUpLabel(int l) {
        if (l < 0 || l >= MOST_LABELS) {
            return BEYOND;
        }
        return l >= labels.size() ? NOTHING_THERE : 0;
    }

    private int checkPair(int from, int to) {
        if (from == to) {
            return SAME;
        }
        return barrels.get(from).inCask() || barrels.get(to).inCask() ? NOT_FREE : 0;
    }

    private int readPlace(int r, int p) {
        if (r < 0 || r >= MOST_ROWS) {
            return BEYOND;
        }
        if (rows[r] == null) {
            return NO_ROW;
        }
        return p < 0 || p >= rows[r].places.length ? BEYOND : 0;
    }

    private Barrel find(int b) {
        return b < 0 || b >= barrels.size() ? null : barrels.get(b);
    }

    private static int placeCode(int r, int p) {
        return 1 + 100 * r + p;
    }

    private static boolean isMl(long ml) {
        return ml >= 1 && ml <= MOST_ML;
    }

    private static boolean isCents(int cents) {
        return cents >= 0 && cents <= MOST_CENTS;
    }

    private static boolean isRuleOver(int dim, int value, int h) {
        return dim >= 1 && dim <= 3 && value >= 0 && value <= 15 && h >= 0 && h <= 100;
    }

    // ---- moving wine

    private boolean hasTooManyPartsFor(Barrel vessel) {
        return vessel.wine.countWith(drawing.drawn) > MOST_PARTS;
    }

    private void pourInto(Barrel vessel) {
        before.keepBarrel(vessel);
        drawing.carryOut(before, vessel.wine);
    }

    private void drawOff(Barrel barrel, long ml, int how) {
        drawing.clear();
        drawing.drawFrom(barrel, ml, bodies);
        remember();
        before.keepAccount(how, accounts[how]);
        drawing.carryOut(before, accounts[how]);
    }

    /** Amounts by rising parts: what a vessel has, what is drawn, or an account. */
    private static final class Wine {
        int[] parts = new int[4];
        long[] amounts = new long[4];
        int count = 0;
        long total = 0;

        void clear() {
            count = 0;
            total = 0;
        }

        /** The first index whose part is not below the told one. */
        private int indexOf(int part) {
            int low = 0;
            int high = count;
            while (low < high) {
                int middle = (low + high) / 2;
                if (parts[middle] < part) {
                    low = middle + 1;
                } else {
                    high = middle;
                }
            }
            return low;
        }

        private boolean isAt(int i, int part) {
            return i < count && parts[i] == part;
        }

        long amountOf(int part) {
            int i = indexOf(part);
            return isAt(i, part) ? amounts[i] : 0;
        }

        void add(int part, long ml) {
            int i = indexOf(part);
            if (isAt(i, part)) {
                amounts[i] += ml;
            } else {
                if (count >= parts.length) {
                    parts = Arrays.copyOf(parts, 2 * parts.length);
                    amounts = Arrays.copyOf(amounts, 2 * amounts.length);
                }
                System.arraycopy(parts, i, parts, i + 1, count - i);
                System.arraycopy(amounts, i, amounts, i + 1, count - i);
                parts[i] = part;
                amounts[i] = ml;
                count++;
            }
            total += ml;
        }

        /** What falls below 0, or to it, stays: a balance has to tell of both. */
        void subtract(Wine other) {
            for (int i = 0; i < other.count; i++) {
                add(other.parts[i], -other.amounts[i]);
            }
        }

        int countUneven() {
            int uneven = 0;
            for (int i = 0; i < count; i++) {
                if (amounts[i] != 0) {
                    uneven++;
                }
            }
            return uneven;
        }

        /** Lets go, of each part, what stands for it; a part of which nothing is left is none. */
        void lessen(long[] going) {
            int kept = 0;
            for (int i = 0; i < count; i++) {
                long goes = i < going.length ? going[i] : 0;
                total -= goes;
                if (amounts[i] > goes) {
                    parts[kept] = parts[i];
                    amounts[kept] = amounts[i] - goes;
                    kept++;
                }
            }
            count = kept;
        }

        void copyFrom(Wine other) {
            if (other.count > parts.length) {
                parts = new int[other.parts.length];
                amounts = new long[other.amounts.length];
            }
            System.arraycopy(other.parts, 0, parts, 0, other.count);
            System.arraycopy(other.amounts, 0, amounts, 0, other.count);
            count = other.count;
            total = other.total;
        }

        /** How many parts there would be together with the other's. */
        int countWith(Wine other) {
            int together = count;
            for (int i = 0; i < other.count; i++) {
                if (!isAt(indexOf(other.parts[i]), other.parts[i])) {
                    together++;
                }
            }
            return together;
        }
    }

    /** The bodies that ran, the first of them, as many as there is place for. */
    private static final class Trace {
        private final int[] numbers;
        private int count = 0;

        Trace(int most) {
            numbers = new int[Math.max(most, 0)];
        }

        void clear() {
            count = 0;
        }

        void ran(int body) {
            if (count < numbers.length) {
                numbers[count] = body;
                count++;
            }
        }

        int read(int i) {
            return i < 0 || i >= count ? 0 : numbers[i];
        }
    }

    /** A vessel or a cask. A cask's own wine stays empty: what it has lies in its members. */
    private static final class Barrel {
        final int number;
        final int kind;
        final int size;
        int cents;
        int place = 0;
        final Wine wine = new Wine();
        final Barrel[] members = new Barrel[MOST_MEMBERS];
        int memberCount = 0;

        private int keptCents = 0;
        private int keptPlace = 0;
        private int keptMemberCount = 0;
        private final Wine keptWine = new Wine();

        private int timesSeen = 0;
        private int seenAt = 0;

        Barrel(int number, int kind, int size, int cents) {
            this.number = number;
            this.kind = kind;
            this.size = size;
            this.cents = cents;
        }

        boolean onFloor() {
            return place == 0;
        }

        boolean inCask() {
            return place >= IN_CASK;
        }

        void takeIn(Barrel vessel) {
            if (memberCount < members.length) {
                members[memberCount] = vessel;
                memberCount++;
                vessel.place = IN_CASK + number;
            }
        }

        long has() {
            long sum = wine.total;
            for (int i = 0; i < memberCount; i++) {
                sum += members[i].wine.total;
            }
            return sum;
        }

        long hasOf(int part) {
            long sum = wine.amountOf(part);
            for (int i = 0; i < memberCount; i++) {
                sum += members[i].wine.amountOf(part);
            }
            return sum;
        }

        int countInside() {
            return kind == CASK ? memberCount : wine.count;
        }

        /** MOST. */
        long takesInAll(Trace trace) {
            if (kind != CASK) {
                return vesselTakes(trace);
            }
            trace.ran(4);
            long sum = 0;
            for (int i = 0; i < memberCount; i++) {
                sum += members[i].vesselTakes(trace);
            }
            return sum;
        }

        private long vesselTakes(Trace trace) {
            switch (kind) {
                case STEEL:
                    return steelTakes(trace);
                case GLASS:
                    trace.ran(3);
                    return Math.max(steelTakes(trace) - 10, 0);
                default:
                    trace.ran(1);
                    return size;
            }
        }

        private long steelTakes(Trace trace) {
            trace.ran(2);
            return size - size / 50;
        }

        /** SPARE. */
        long maySpare(Trace trace) {
            if (kind != CASK) {
                return vesselSpares(trace);
            }
            trace.ran(8);
            long sum = 0;
            for (int i = 0; i < memberCount; i++) {
                sum += members[i].vesselSpares(trace);
            }
            return sum;
        }

        private long vesselSpares(Trace trace) {
            switch (kind) {
                case OAK:
                    return oakSpares(trace);
                case NEW:
                    trace.ran(6);
                    return Math.max(oakSpares(trace) - size / 2000, 0);
                default:
                    trace.ran(7);
                    return wine.total;
            }
        }

        private long oakSpares(Trace trace) {
            trace.ran(5);
            return Math.max(wine.total - size / 1000, 0);
        }

        /** RATE. */
        long breathes(Trace trace) {
            switch (kind) {
                case OAK:
                    return oakBreathes(trace);
                case NEW:
                    trace.ran(11);
                    return oakBreathes(trace) + 15;
                case GLASS:
                    trace.ran(12);
                    return 1;
                default:
                    trace.ran(9);
                    return 0;
            }
        }

        private static long oakBreathes(Trace trace) {
            trace.ran(10);
            return 20;
        }

        /** DEAR. */
        long isDear(long ml, Trace trace) {
            long plain = cents * ml;
            switch (kind) {
                case NEW:
                    trace.ran(14);
                    return plain + plain / 10;
                case CASK:
                    trace.ran(15);
                    return 2 * plain;
                default:
                    trace.ran(13);
                    return plain;
            }
        }

        /**
         * Keeps what an act may change. The members themselves need no copy: an act only adds
         * one behind them or lets the last one go, and neither overwrites another.
         */
        void keep() {
            keptCents = cents;
            keptPlace = place;
            keptMemberCount = memberCount;
            keptWine.copyFrom(wine);
        }

        void restore() {
            cents = keptCents;
            place = keptPlace;
            memberCount = keptMemberCount;
            wine.copyFrom(keptWine);
        }

        void loseSight() {
            timesSeen = 0;
            seenAt = 0;
        }

        void seeAt(int code) {
            timesSeen++;
            seenAt = code;
        }

        void seeMembers() {
            for (int i = 0; i < memberCount; i++) {
                members[i].seeAt(IN_CASK + number);
            }
        }

        boolean isStray() {
            return timesSeen > 1 || seenAt != place;
        }

        long digestOnto(long before) {
            long d = before * 31 + kind;
            d = d * 31 + size;
            d = d * 31 + cents;
            d = d * 31 + place;
            d = d * 31 + countInside();
            for (int i = 0; i < wine.count; i++) {
                d = d * 31 + wine.parts[i];
                d = d * 31 + wine.amounts[i];
            }
            for (int i = 0; i < memberCount; i++) {
                d = d * 31 + members[i].number;
            }
            return d;
        }
    }

    /** A row that is built: a barrel's number, or NO_NUMBER, at each place. */
    private static final class Row {
        final int kind;
        final int[] places;

        Row(int kind, int n) {
            this.kind = kind;
            places = new int[Math.max(n, 0)];
            Arrays.fill(places, NO_NUMBER);
        }

        boolean takes(int barrelKind) {
            switch (kind) {
                case 0:
                    return true;
                case 1:
                    return barrelKind == OAK || barrelKind == NEW;
                case 2:
                    return barrelKind == NEW;
                case 3:
                    return barrelKind == STEEL || barrelKind == GLASS;
                case 4:
                    return barrelKind == GLASS;
                case 5:
                    return barrelKind == CASK;
                default:
                    return barrelKind != CASK;
            }
        }
    }

    /** The barrels that are picked, each with its amount. */
    private static final class Picks {
        final Barrel[] barrels = new Barrel[MOST_PICKED];
        final long[] amounts = new long[MOST_PICKED];
        int count = 0;

        void clear() {
            count = 0;
        }

        void add(Barrel barrel, long ml) {
            if (count < barrels.length) {
                barrels[count] = barrel;
                amounts[count] = ml;
                count++;
            }
        }

        boolean has(int b) {
            for (int i = 0; i < count; i++) {
                if (barrels[i].number == b) {
                    return true;
                }
            }
            return false;
        }

        boolean anyInCask() {
            for (int i = 0; i < count; i++) {
                if (barrels[i].inCask()) {
                    return true;
                }
            }
            return false;
        }

        /** Asks each in order, up to the first that can't spare its amount. */
        boolean allSpared(Trace trace) {
            for (int i = 0; i < count; i++) {
                if (amounts[i] > barrels[i].maySpare(trace)) {
                    return false;
                }
            }
            return true;
        }

        long sum() {
            long sum = 0;
            for (int i = 0; i < count; i++) {
                sum += amounts[i];
            }
            return sum;
        }
    }

    /**
     * Wine that is drawn, first in thought, then carried out: an act may still be refused behind
     * the thought, and asking for SPARE a second time would stand in the trace.
     */
    private static final class Drawing {
        private final Barrel[] vessels = new Barrel[MOST_PICKED * MOST_MEMBERS];
        private final long[] amounts = new long[MOST_PICKED * MOST_MEMBERS];
        private final long[] going = new long[MOST_PARTS];
        private int count = 0;
        final Wine drawn = new Wine();

        void clear() {
            count = 0;
            drawn.clear();
        }

        void drawFrom(Barrel barrel, long ml, Trace trace) {
            if (barrel.kind != CASK) {
                drawFromVessel(barrel, ml);
                return;
            }
            long wanting = ml;
            for (int i = 0; i < barrel.memberCount && wanting > 0; i++) {
                Barrel member = barrel.members[i];
                long gives = Math.min(wanting, member.maySpare(trace));
                drawFromVessel(member, gives);
                wanting -= gives;
            }
        }

        private void drawFromVessel(Barrel vessel, long ml) {
            if (ml <= 0 || count >= vessels.length) {
                return;
            }
            vessels[count] = vessel;
            amounts[count] = ml;
            count++;
            reckonShares(vessel.wine, ml);
            addGoing(vessel.wine, drawn);
        }

        void carryOut(Before before, Wine onto) {
            for (int i = 0; i < count; i++) {
                before.keepBarrel(vessels[i]);
                takeOut(vessels[i].wine, amounts[i], onto);
            }
        }

        void takeOut(Wine wine, long ml, Wine onto) {
            reckonShares(wine, ml);
            addGoing(wine, onto);
            wine.lessen(going);
        }

        private void reckonShares(Wine wine, long ml) {
            long all = wine.total;
            long wanting = ml;
            for (int i = 0; i < wine.count && i < going.length; i++) {
                going[i] = all == 0 ? 0 : ml * wine.amounts[i] / all;
                wanting -= going[i];
            }
            for (int i = 0; i < wine.count && i < going.length && wanting > 0; i++) {
                if (all != 0 && ml * wine.amounts[i] % all != 0) {
                    going[i]++;
                    wanting--;
                }
            }
        }

        private void addGoing(Wine wine, Wine onto) {
            for (int i = 0; i < wine.count && i < going.length; i++) {
                if (going[i] > 0) {
                    onto.add(wine.parts[i], going[i]);
                }
            }
        }
    }

    /** How things were before the latest act that undo takes back. */
    private static final class Before {
        boolean ready = false;
        int barrelCount = 0;
        int months = 0;
        int journalCount = 0;
        int bottledCount = 0;
        int row = NO_NUMBER;
        int place = NO_NUMBER;
        int lay = NO_NUMBER;
        int how = NO_NUMBER;
        final Wine account = new Wine();
        private final ArrayList<Barrel> changed = new ArrayList<>();

        void begin(int barrelsNow, int monthsNow, int journalNow, int bottledNow) {
            ready = true;
            barrelCount = barrelsNow;
            months = monthsNow;
            journalCount = journalNow;
            bottledCount = bottledNow;
            row = NO_NUMBER;
            how = NO_NUMBER;
            changed.clear();
        }

        void keepBarrel(Barrel barrel) {
            barrel.keep();
            changed.add(barrel);
        }

        /** Of a row that is about to be built there is nothing to keep but its number. */
        void keepRow(int r) {
            keepPlace(r, NO_NUMBER, NO_NUMBER);
        }

        void keepPlace(int r, int p, int layThere) {
            row = r;
            place = p;
            lay = layThere;
        }

        void keepAccount(int which, Wine now) {
            how = which;
            account.copyFrom(now);
        }

        void restoreBarrels() {
            for (int i = 0; i < changed.size(); i++) {
                changed.get(i).restore();
            }
        }
    }

    /** Lines of four numbers: the journal, the list of bottlings. */
    private static final class Lines {
        private static final int WIDTH = 4;
        private long[] numbers = new long[4 * WIDTH];
        int count = 0;

        void add(long first, long second, long third, long fourth) {
            int start = count * WIDTH;
            if (start + WIDTH > numbers.length) {
                numbers = Arrays.copyOf(numbers, 2 * numbers.length);
            }
            numbers[start] = first;
            numbers[start + 1] = second;
            numbers[start + 2] = third;
            numbers[start + 3] = fourth;
            count++;
        }

        long read(int i, int what) {
            if (i < 0 || i >= count || what < 0 || what >= WIDTH) {
                return NO_NUMBER;
            }
            return numbers[i * WIDTH + what];
        }

        void cutTo(int lines) {
            count = Math.min(count, lines);
        }
    }

    /**
     * A label's rules. EITHER of two rules asks the leaves of the first, then those of the second,
     * up to one that does not fail: so each rule is just a run of leaves, and uniting the last two
     * drops the border between them.
     */
    private static final class Label {
        static final int AT_LEAST = 1;
        static final int AT_MOST = 2;
        static final int ONLY = 3;
        static final int WITH = 4;
        static final int EITHER = 6;

        private final int[] ops = new int[MOST_RULES];
        private final int[] dims = new int[MOST_RULES];
        private final int[] values = new int[MOST_RULES];
        private final int[] hundredths = new int[MOST_RULES];
        private int leafCount = 0;
        private final int[] firstLeaves = new int[MOST_RULES];
        int ruleCount = 0;
        int made = 0;

        void addRule(int op, int dim, int value, int h) {
            if (leafCount >= MOST_RULES) {
                return;
            }
            ops[leafCount] = op;
            dims[leafCount] = dim;
            values[leafCount] = value;
            hundredths[leafCount] = h;
            firstLeaves[ruleCount] = leafCount;
            leafCount++;
            ruleCount++;
            made++;
        }

        void uniteLastTwo() {
            ruleCount--;
            made++;
        }

        /** The first rule that does not hold, or NO_NUMBER. */
        int firstBroken(Tally tally) {
            for (int r = 0; r < ruleCount; r++) {
                if (answerOf(r, tally) != HOLDS) {
                    return r;
                }
            }
            return NO_NUMBER;
        }

        int answerOf(int r, Tally tally) {
            if (r < 0 || r >= ruleCount) {
                return FAILS;
            }
            int end = r + 1 < ruleCount ? firstLeaves[r + 1] : leafCount;
            for (int i = firstLeaves[r]; i < end; i++) {
                int answer = answerOfLeaf(i, tally);
                if (answer != FAILS) {
                    return answer;
                }
            }
            return FAILS;
        }

        private int answerOfLeaf(int i, Tally tally) {
            long some = tally.having(dims[i], values[i]);
            long all = tally.total;
            if (all == 0 && ops[i] <= AT_MOST) {
                return SHARED_BY_NOUGHT;
            }
            return isSo(ops[i], some, all, hundredths[i]) ? HOLDS : FAILS;
        }

        private static boolean isSo(int op, long some, long all, int h) {
            switch (op) {
                case AT_LEAST:
                    return all != 0 && some * 100 / all >= h;
                case AT_MOST:
                    return all != 0 && (some * 100 + all - 1) / all <= h;
                case ONLY:
                    return some == all;
                case WITH:
                    return some > 0;
                default:
                    return some == 0;
            }
        }
    }

    /**
     * How much of a wine has which harvest, vineyard and grape. The wine is the sum of the slots
     * that are chosen, one of each source: so a plan draws each amount of a barrel once, however
     * many blends it tries.
     */
    private static final class Tally {
        private static final int VALUES = 16;
        private static final int SUMS = 3 * VALUES;
        private final long[] sums;
        private final int[] chosen = new int[MOST_PLANNED];
        private int chosenCount = 0;
        long total = 0;

        Tally(int slots) {
            sums = new long[Math.max(slots, 1) * SUMS];
        }

        void begin(int sources, long inAll) {
            chosenCount = Math.min(sources, chosen.length);
            total = inAll;
        }

        void countAlone(Barrel barrel) {
            begin(1, barrel.has());
            choose(0, 0);
            clearSlot(0);
            addToSlot(0, barrel.wine);
            for (int i = 0; i < barrel.memberCount; i++) {
                addToSlot(0, barrel.members[i].wine);
            }
        }

        void choose(int source, int slot) {
            chosen[source] = slot * SUMS;
        }

        void clearSlot(int slot) {
            for (int i = 0; i < SUMS; i++) {
                sums[slot * SUMS + i] = 0;
            }
        }

        void addToSlot(int slot, Wine wine) {
            int start = slot * SUMS;
            for (int i = 0; i < wine.count; i++) {
                int part = wine.parts[i];
                sums[start + part / 256 % VALUES] += wine.amounts[i];
                sums[start + VALUES + part / 16 % VALUES] += wine.amounts[i];
                sums[start + 2 * VALUES + part % VALUES] += wine.amounts[i];
            }
        }

        long having(int dim, int value) {
            int offset = (dim - 1) * VALUES + value;
            long sum = 0;
            for (int i = 0; i < chosenCount; i++) {
                sum += sums[chosen[i] + offset];
            }
            return sum;
        }
    }

    /** Tries all amounts for what is picked, the lowest first amounts first. */
    private static final class Planner {
        private static final int SLOTS = MOST_PLANNED * STEP_SLOTS;
        private final Tally tally = new Tally(SLOTS);
        private final long[] dears = new long[SLOTS];
        private final int[] mostSteps = new int[MOST_PLANNED];
        private final int[] tried = new int[MOST_PLANNED];
        private final int[] best = new int[MOST_PLANNED];
        private Label wanted = null;
        private int count = 0;
        private long least = NO_NUMBER;
        private final long[] settled = new long[MOST_PLANNED];
        private int settledCount = 0;

        /** The slot of so many steps of a source; those of no step are never written to. */
        private static int slotOf(int source, int steps) {
            return source * STEP_SLOTS + steps;
        }

        void begin(Label label, int sources, long ml) {
            wanted = label;
            count = Math.min(sources, MOST_PLANNED);
            Arrays.fill(mostSteps, 0);
            tally.begin(count, ml);
        }

        void setDear(int source, int steps, long dear) {
            dears[slotOf(source, steps)] = dear;
        }

        /** Offers are made by rising steps, so the latest is the most. */
        void offer(int source, int steps, Wine drawn) {
            mostSteps[source] = steps;
            tally.clearSlot(slotOf(source, steps));
            tally.addToSlot(slotOf(source, steps), drawn);
        }

        /** The least sum of DEAR, or NO_NUMBER. */
        long search(int steps) {
            least = NO_NUMBER;
            chooseFrom(0, steps, 0);
            return least;
        }

        private void chooseFrom(int source, int left, long dear) {
            // Only a lesser sum is better: the first of equal ones has the lowest first amounts.
            if (least != NO_NUMBER && dear >= least) {
                return;
            }
            if (source >= count) {
                if (left == 0 && wanted != null && wanted.firstBroken(tally) == NO_NUMBER) {
                    least = dear;
                    System.arraycopy(tried, 0, best, 0, count);
                }
                return;
            }
            int fewest = source == count - 1 ? left : 0;
            int most = Math.min(left, mostSteps[source]);
            for (int k = fewest; k <= most; k++) {
                tried[source] = k;
                tally.choose(source, slotOf(source, k));
                chooseFrom(source + 1, left - k, dear + dears[slotOf(source, k)]);
            }
        }

        void settle(long step) {
            settledCount = count;
            for (int i = 0; i < count; i++) {
                settled[i] = best[i] * step;
            }
        }

        long readSettled(int i) {
            return i < 0 || i >= settledCount ? 0 : settled[i];
        }
    }
}
