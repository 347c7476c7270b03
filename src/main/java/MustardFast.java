import java.util.Arrays;

/**
 * A duchy that fasts from mustard: its days, its eaters, who is found yellow, what that costs, and what can be told
 * of them by who was found. The answers are those of the document's promises.
 */
public final class MustardFast {
    public static final int UNKNOWN = -1, OUTSIDE = -2, STATE = -3, FULL = -4, NONE = -9;
    public static final long LOST = Long.MIN_VALUE;

    private static final int NO_FAULT = 0, NULL = 1, CAST = 2, INDEX = 3, SIZE = 4;
    private static final int EATER = 0, SLY = 1, STRANGER = 2;
    private static final int BYTES = 0, SHORTS = 1, INTS = 2;
    private static final int MOST_DAYS = 6, MOST_EATERS = 4, MOST_READINGS = 8, MOST_SHEETS = 4, MOST_CELLS = 60;
    private static final int MOST_STAY = 5, MOST_SPOONS = 9, MOST_NEED = 6, MOST_LOOK = 9;
    private static final int NOBODY = -1;
    private static final int PLAN_DAYS = 10;

    private final Duchy duchy;
    private final Readings readings;
    private final Sheet[] sheets;
    private int latestFault;
    private int traced;

    public MustardFast() {
        duchy = new Duchy();
        readings = new Readings();
        sheets = new Sheet[MOST_SHEETS];
        for (int k = 0; k < sheets.length; k++) {
            sheets[k] = new Sheet();
        }
    }

    // ---- 1 the duchy

    public int duchy(int sheet, int lane, int i, int n) {
        latestFault = NO_FAULT;
        Sheet text = sheetAt(sheet);
        if (text == null) {
            return UNKNOWN;
        }
        if (!isLane(lane)) {
            return OUTSIDE;
        }
        int fault = text.faultOfCells(lane, i, n);
        if (fault != NO_FAULT) {
            return faulted(fault);
        }
        int wrong = Text.firstFault(text, i, n);
        if (wrong != Text.TAKEN) {
            return -100 - wrong;
        }
        duchy.takeText(text, i, n);
        readings.dropAll();
        return duchy.eaterCount();
    }

    public int ofEater(int a, int what) {
        if (!duchy.hasEater(a)) {
            return UNKNOWN;
        }
        switch (what) {
            case 0:
                return duchy.kindOf(a);
            case 1:
                return duchy.stayOf(a);
            case 2:
                return duchy.spoonsOf(a);
            case 3:
                return duchy.needOf(a);
            case 4:
                return duchy.lastsOf(a);
            default:
                return OUTSIDE;
        }
    }

    public int look(int d) {
        return duchy.hasDay(d) ? duchy.lookOf(d) : UNKNOWN;
    }

    public int pull(int d, int v) {
        if (!duchy.hasDay(d)) {
            return UNKNOWN;
        }
        if (!isFrom0To(v, MOST_LOOK)) {
            return OUTSIDE;
        }
        int was = duchy.lookOf(d);
        duchy.changeLook(d, v);
        return was;
    }

    public int sour(int v) {
        if (!isFrom0To(v, MOST_LOOK)) {
            return OUTSIDE;
        }
        if (!duchy.isTold()) {
            return STATE;
        }
        int was = duchy.sourLook();
        duchy.changeSour(v);
        return was;
    }

    public int crave(int a, int v) {
        if (!duchy.hasEater(a)) {
            return UNKNOWN;
        }
        if (!isFrom0To(v, MOST_NEED)) {
            return OUTSIDE;
        }
        int was = duchy.needOf(a);
        duchy.changeNeed(a, v);
        return was;
    }

    // ---- 2 who is found

    public int fasts() {
        return duchy.isTold() ? duchy.fastDays() : STATE;
    }

    public int yellow(int a, int set) {
        if (!duchy.hasEater(a)) {
            return UNKNOWN;
        }
        if (!duchy.hasDays(set)) {
            return OUTSIDE;
        }
        return duchy.yellowDays(duchy.lastsOf(a), set);
    }

    public int found(int a, int set, int what) {
        if (!duchy.hasEater(a)) {
            return UNKNOWN;
        }
        if (!duchy.hasDays(set) || !isFrom0To(what, 1)) {
            return OUTSIDE;
        }
        return what == 0 ? duchy.foundDays(a, set) : duchy.fineOf(a, set);
    }

    public int plan(int sheet, int lane, int i, int n, int what) {
        latestFault = NO_FAULT;
        Sheet cells = sheetAt(sheet);
        if (cells == null) {
            return UNKNOWN;
        }
        if (!isLane(lane) || !isAskedOfPlans(what)) {
            return OUTSIDE;
        }
        if (!duchy.isTold()) {
            return STATE;
        }
        int fault = cells.faultOfCells(lane, i, n);
        if (fault != NO_FAULT) {
            return faulted(fault);
        }
        if (!duchy.hasPlan(cells, i, n)) {
            return OUTSIDE;
        }
        return ofPlan(cells, i, what);
    }

    private static boolean isAskedOfPlans(int what) {
        return isFrom0To(what, 3) || what >= PLAN_DAYS && what < PLAN_DAYS + MOST_DAYS;
    }

    private int ofPlan(Sheet cells, int i, int what) {
        switch (what) {
            case 0:
                return duchy.finesOfPlan(cells, i);
            case 1:
                return duchy.firstDayOfPlan(cells, i);
            case 2:
                return duchy.foundEatersOfPlan(cells, i);
            case 3:
                return duchy.starvedEatersOfPlan(cells, i);
            default:
                return duchy.hasDay(what - PLAN_DAYS) ? duchy.foundOnDayOfPlan(cells, i, what - PLAN_DAYS) : NONE;
        }
    }

    // ---- 3 when to eat

    public int best(int a, int what) {
        if (!duchy.hasEater(a)) {
            return UNKNOWN;
        }
        if (!isFrom0To(what, 1)) {
            return OUTSIDE;
        }
        int set = duchy.bestSet(a, duchy.fastDays());
        return set == NONE || what == 0 ? set : duchy.fineOf(a, set);
    }

    public int village() {
        return duchy.isTold() ? duchy.villagePays(duchy.fastDays()) : STATE;
    }

    public int smile(int what) {
        if (!isFrom0To(what, 1)) {
            return OUTSIDE;
        }
        if (!duchy.isTold()) {
            return STATE;
        }
        int day = duchy.smileDay();
        return day == NONE || what == 0 ? day : duchy.villagePays(duchy.fastDaysBut(day));
    }

    // ---- 4 who was found

    public int reading(int a, int set, int d, boolean was) {
        if (!duchy.hasEater(a)) {
            return UNKNOWN;
        }
        if (!duchy.hasDays(set)) {
            return OUTSIDE;
        }
        if (!duchy.hasDay(d)) {
            return UNKNOWN;
        }
        if (readings.isFull()) {
            return FULL;
        }
        readings.keep(a, set, d, was);
        return readings.keptCount() - 1;
    }

    public int back(int k) {
        if (!isFrom0To(k, readings.keptCount())) {
            return OUTSIDE;
        }
        readings.dropLast(k);
        return readings.keptCount();
    }

    public int stays(int a) {
        if (!duchy.hasEater(a)) {
            return UNKNOWN;
        }
        int set = 0;
        for (int stay = 0; stay <= MOST_STAY; stay++) {
            int lasts = Duchy.lastsBy(duchy.kindOf(a), stay);
            if (readings.allAreSo(duchy, a, lasts, duchy.sourLook())) {
                set |= 1 << stay;
            }
        }
        return set;
    }

    public int kinds(int a) {
        if (!duchy.hasEater(a)) {
            return UNKNOWN;
        }
        int set = 0;
        for (int kind = EATER; kind <= STRANGER; kind++) {
            int lasts = Duchy.lastsBy(kind, duchy.stayOf(a));
            if (readings.allAreSo(duchy, a, lasts, duchy.sourLook())) {
                set |= 1 << kind;
            }
        }
        return set;
    }

    public int sours() {
        if (!duchy.isTold()) {
            return STATE;
        }
        int set = 0;
        for (int sour = 0; sour <= MOST_LOOK; sour++) {
            if (readings.allAreSo(duchy, NOBODY, 0, sour)) {
                set |= 1 << sour;
            }
        }
        return set;
    }

    public long odds(int a, int set, int which) {
        if (!duchy.hasEater(a) || !duchy.hasDays(set) || !isFrom0To(which, 1)) {
            return LOST;
        }
        // Of all sets of fasts, those count that have no yellow day: each yellow day halves the share.
        return which == 0 ? 1L : 1L << Integer.bitCount(duchy.yellowDays(duchy.lastsOf(a), set));
    }

    // ---- 5 sheets, parts

    public int sheet(int k, int lane, int n) {
        latestFault = NO_FAULT;
        Sheet sheet = sheetAt(k);
        if (sheet == null) {
            return UNKNOWN;
        }
        if (!isLane(lane) || n > MOST_CELLS) {
            return OUTSIDE;
        }
        if (n < 0) {
            return faulted(SIZE);
        }
        sheet.makeRow(lane, n);
        return 1;
    }

    public int lose(int k) {
        Sheet sheet = sheetAt(k);
        if (sheet == null) {
            return UNKNOWN;
        }
        if (!sheet.hasRow()) {
            return 0;
        }
        sheet.dropRow();
        return 1;
    }

    public int put(int k, int i, int v) {
        latestFault = NO_FAULT;
        Sheet sheet = sheetAt(k);
        if (sheet == null) {
            return UNKNOWN;
        }
        int fault = sheet.faultOfCells(sheet.rowLane(), i, 1);
        if (fault != NO_FAULT) {
            return faulted(fault);
        }
        sheet.write(i, v);
        return 1;
    }

    public long cell(int k, int i, int lane) {
        latestFault = NO_FAULT;
        Sheet sheet = sheetAt(k);
        if (sheet == null || !isLane(lane)) {
            return LOST;
        }
        int fault = sheet.faultOfCells(lane, i, 1);
        if (fault != NO_FAULT) {
            latestFault = fault;
            return LOST;
        }
        return sheet.numberAt(i);
    }

    public int copy(int k, int i, int other, int j, int n) {
        latestFault = NO_FAULT;
        Sheet source = sheetAt(k);
        Sheet target = sheetAt(other);
        if (source == null || target == null) {
            return UNKNOWN;
        }
        if (!source.hasRow() || !target.hasRow()) {
            return faulted(NULL);
        }
        if (source.rowLane() != target.rowLane()) {
            return faulted(CAST);
        }
        if (!source.hasCells(i, n) || !target.hasCells(j, n)) {
            return faulted(INDEX);
        }
        source.copyTo(i, target, j, n);
        return n;
    }

    public int tell(int a) {
        if (!duchy.hasEater(a)) {
            return UNKNOWN;
        }
        switch (duchy.kindOf(a)) {
            case STRANGER:
                return strangerTelling(a);
            case SLY:
                return slyTelling(a);
            default:
                return eaterTelling(a);
        }
    }

    private int eaterTelling(int a) {
        leaveInTrace(1);
        return duchy.spoonsOf(a);
    }

    private int slyTelling(int a) {
        leaveInTrace(2);
        return eaterTelling(a) + 100;
    }

    private int strangerTelling(int a) {
        leaveInTrace(3);
        int slyPart = slyTelling(a);
        return slyPart + eaterTelling(a);
    }

    public int sniff(int a) {
        if (!duchy.hasEater(a)) {
            return UNKNOWN;
        }
        return duchy.kindOf(a) == STRANGER ? strangerSniffing() : lentSniffing(a);
    }

    private int lentSniffing(int a) {
        leaveInTrace(4);
        return a;
    }

    private int strangerSniffing() {
        leaveInTrace(5);
        return 40;
    }

    private void leaveInTrace(int body) {
        traced = 31 * traced + body;
    }

    public int as(int a, int kind) {
        latestFault = NO_FAULT;
        if (!duchy.hasEater(a)) {
            return UNKNOWN;
        }
        if (!isFrom0To(kind, STRANGER)) {
            return OUTSIDE;
        }
        // Each kind is one of all the kinds below it, too.
        return duchy.kindOf(a) >= kind ? 1 : faulted(CAST);
    }

    public int trace() {
        return traced;
    }

    public int fault() {
        return latestFault;
    }

    public int many(int what) {
        switch (what) {
            case 0:
                return duchy.eaterCount();
            case 1:
                return duchy.dayCount();
            case 2:
                return duchy.sourLook();
            case 3:
                return readings.keptCount();
            default:
                return OUTSIDE;
        }
    }

    private Sheet sheetAt(int k) {
        return k >= 0 && k < sheets.length ? sheets[k] : null;
    }

    private int faulted(int fault) {
        latestFault = fault;
        return -10 - fault;
    }

    private static boolean isLane(int lane) {
        return lane >= BYTES && lane <= INTS;
    }

    private static boolean isFrom0To(int v, int most) {
        return v >= 0 && v <= most;
    }

    private static int numberIn(int[] row, int i) {
        return i >= 0 && i < row.length ? row[i] : 0;
    }

    private static void changeIn(int[] row, int i, int v) {
        if (i >= 0 && i < row.length) {
            row[i] = v;
        }
    }

    /** Days and eaters. Its rows are as long as the longest text wants, so that a new text makes no new ones. */
    private static final class Duchy {
        private final int[] looks = new int[MOST_DAYS];
        private final int[] eaterKinds = new int[MOST_EATERS];
        private final int[] eaterStays = new int[MOST_EATERS];
        private final int[] eaterSpoons = new int[MOST_EATERS];
        private final int[] eaterNeeds = new int[MOST_EATERS];
        private int days;
        private int eaters;
        private int sourFrom;

        /** Takes a text that has no fault: its codes are not looked at again. */
        void takeText(Sheet text, int from, int n) {
            sourFrom = Text.digitAt(text, from + 1);
            days = 0;
            eaters = 0;
            int place = 3;
            for (; place < n && days < MOST_DAYS && Text.isDigitAt(text, from + place); place++) {
                changeIn(looks, days, Text.digitAt(text, from + place));
                days++;
            }
            for (; place + 4 < n && eaters < MOST_EATERS; place += 5) {
                changeIn(eaterKinds, eaters, Text.kindByLetter(text.numberAt(from + place + 1)));
                changeIn(eaterStays, eaters, Text.digitAt(text, from + place + 2));
                changeIn(eaterSpoons, eaters, Text.digitAt(text, from + place + 3));
                changeIn(eaterNeeds, eaters, Text.digitAt(text, from + place + 4));
                eaters++;
            }
        }

        boolean isTold() {
            return eaters > 0;
        }

        int eaterCount() {
            return eaters;
        }

        int dayCount() {
            return days;
        }

        boolean hasEater(int a) {
            return a >= 0 && a < eaters;
        }

        boolean hasDay(int d) {
            return d >= 0 && d < days;
        }

        boolean hasDays(int set) {
            return set >= 0 && set <= allDays();
        }

        int allDays() {
            return (1 << days) - 1;
        }

        int kindOf(int a) {
            return numberIn(eaterKinds, a);
        }

        int stayOf(int a) {
            return numberIn(eaterStays, a);
        }

        int spoonsOf(int a) {
            return numberIn(eaterSpoons, a);
        }

        int needOf(int a) {
            return numberIn(eaterNeeds, a);
        }

        void changeNeed(int a, int need) {
            changeIn(eaterNeeds, a, need);
        }

        int lastsOf(int a) {
            return lastsBy(numberIn(eaterKinds, a), numberIn(eaterStays, a));
        }

        static int lastsBy(int kind, int stay) {
            if (kind == EATER) {
                return stay;
            }
            int slyLasts = stay > 0 ? stay - 1 : 0;
            return kind == SLY ? slyLasts : slyLasts / 2;
        }

        int lookOf(int d) {
            return numberIn(looks, d);
        }

        void changeLook(int d, int look) {
            changeIn(looks, d, look);
        }

        int sourLook() {
            return sourFrom;
        }

        void changeSour(int look) {
            sourFrom = look;
        }

        int fastDays() {
            int fasts = 0;
            for (int d = 0; d < days; d++) {
                if (numberIn(looks, d) >= sourFrom) {
                    fasts |= 1 << d;
                }
            }
            return fasts;
        }

        int fastDaysBut(int d) {
            return fastDays() & ~(1 << d);
        }

        int yellowDays(int lasts, int set) {
            int yellow = 0;
            for (int behind = 0; behind <= lasts && behind <= MOST_STAY; behind++) {
                yellow |= set << behind;
            }
            return yellow & allDays();
        }

        int foundDays(int a, int set) {
            return yellowDays(lastsOf(a), set) & fastDays();
        }

        int fineOf(int a, int set) {
            return Integer.bitCount(foundDays(a, set)) * spoonsOf(a);
        }

        boolean isFoundOn(int d, int set, int lasts, int sour) {
            return (yellowDays(lasts, set) >> d & 1) != 0 && lookOf(d) >= sour;
        }

        boolean hasPlan(Sheet cells, int i, int n) {
            if (n != eaters) {
                return false;
            }
            for (int a = 0; a < eaters; a++) {
                if (!hasDays(cells.numberAt(i + a))) {
                    return false;
                }
            }
            return true;
        }

        int finesOfPlan(Sheet cells, int i) {
            int fines = 0;
            for (int a = 0; a < eaters; a++) {
                fines += fineOf(a, cells.numberAt(i + a));
            }
            return fines;
        }

        int firstDayOfPlan(Sheet cells, int i) {
            int found = 0;
            for (int a = 0; a < eaters; a++) {
                found |= foundDays(a, cells.numberAt(i + a));
            }
            for (int d = 0; d < days; d++) {
                if ((found >> d & 1) != 0) {
                    return d;
                }
            }
            return NONE;
        }

        int foundEatersOfPlan(Sheet cells, int i) {
            int found = 0;
            for (int a = 0; a < eaters; a++) {
                if (foundDays(a, cells.numberAt(i + a)) != 0) {
                    found |= 1 << a;
                }
            }
            return found;
        }

        int starvedEatersOfPlan(Sheet cells, int i) {
            int starved = 0;
            for (int a = 0; a < eaters; a++) {
                if (Integer.bitCount(cells.numberAt(i + a)) < needOf(a)) {
                    starved |= 1 << a;
                }
            }
            return starved;
        }

        int foundOnDayOfPlan(Sheet cells, int i, int d) {
            int found = 0;
            for (int a = 0; a < eaters; a++) {
                found += foundDays(a, cells.numberAt(i + a)) >> d & 1;
            }
            return found;
        }

        /** Best is asked by fasts that are told, since the smile asks what it would be by others. */
        int bestSet(int a, int fasts) {
            int lasts = lastsOf(a);
            int all = allDays();
            int best = NONE;
            int leastFound = 0;
            // Spoons are above 0, so that the fewest days found are the least fine.
            for (int set = 0; set <= all; set++) {
                int found = Integer.bitCount(yellowDays(lasts, set) & fasts);
                boolean isEnough = Integer.bitCount(set) >= needOf(a);
                if (isEnough && (best == NONE || isBetter(found, set, leastFound, best))) {
                    best = set;
                    leastFound = found;
                }
            }
            return best;
        }

        /** Sets come from the least on, so that of two that are alike the one that is there stays. */
        private static boolean isBetter(int found, int set, int leastFound, int best) {
            return found < leastFound || found == leastFound && Integer.bitCount(set) < Integer.bitCount(best);
        }

        int villagePays(int fasts) {
            int pays = 0;
            for (int a = 0; a < eaters; a++) {
                int set = bestSet(a, fasts);
                if (set == NONE) {
                    return NONE;
                }
                pays += Integer.bitCount(yellowDays(lastsOf(a), set) & fasts) * spoonsOf(a);
            }
            return pays;
        }

        int smileDay() {
            int fasts = fastDays();
            int smile = NONE;
            int least = 0;
            for (int d = 0; d < days; d++) {
                int pays = (fasts >> d & 1) == 0 ? NONE : villagePays(fastDaysBut(d));
                if (pays != NONE && (smile == NONE || pays < least)) {
                    smile = d;
                    least = pays;
                }
            }
            return smile;
        }
    }

    /** Who was found: kept as told, since looks and the sour one count as they are when it is asked. */
    private static final class Readings {
        private final int[] ofEaters = new int[MOST_READINGS];
        private final int[] eatenSets = new int[MOST_READINGS];
        private final int[] onDays = new int[MOST_READINGS];
        private final boolean[] wereFound = new boolean[MOST_READINGS];
        private int count;

        int keptCount() {
            return count;
        }

        boolean isFull() {
            return count >= MOST_READINGS;
        }

        void keep(int a, int set, int d, boolean was) {
            if (count < 0 || count >= wereFound.length) {
                return;
            }
            changeIn(ofEaters, count, a);
            changeIn(eatenSets, count, set);
            changeIn(onDays, count, d);
            wereFound[count] = was;
            count++;
        }

        void dropLast(int k) {
            count -= k;
        }

        void dropAll() {
            count = 0;
        }

        /** Whether all are so, were one eater's tongue yellow for so long, and were that look the sour one. */
        boolean allAreSo(Duchy duchy, int one, int lastsOfOne, int sour) {
            for (int r = 0; r < count && r < wereFound.length; r++) {
                int a = numberIn(ofEaters, r);
                int lasts = a == one ? lastsOfOne : duchy.lastsOf(a);
                boolean isFound = duchy.isFoundOn(numberIn(onDays, r), numberIn(eatenSets, r), lasts, sour);
                if (isFound != wereFound[r]) {
                    return false;
                }
            }
            return true;
        }
    }

    /** One sheet. Its cells are made once and are ints in every lane: what comes to them is cut on its way. */
    private static final class Sheet {
        private static final int NOTHING = -1;

        private final int[] cells = new int[MOST_CELLS];
        private int lane;
        private int length = NOTHING;

        boolean hasRow() {
            return length != NOTHING;
        }

        int rowLane() {
            return lane;
        }

        void makeRow(int newLane, int newLength) {
            Arrays.fill(cells, 0);
            lane = newLane;
            length = newLength;
        }

        void dropRow() {
            length = NOTHING;
        }

        /** The fault that is come to first where n cells from i on are taken as a row of a lane. */
        int faultOfCells(int asLane, int i, int n) {
            if (hasRow() && lane != asLane) {
                return CAST;
            }
            if (!hasRow()) {
                return NULL;
            }
            if (n < 0) {
                return SIZE;
            }
            return hasCells(i, n) ? NO_FAULT : INDEX;
        }

        boolean hasCells(int i, int n) {
            return i >= 0 && i <= length && n >= 0 && n <= length - i;
        }

        int numberAt(int i) {
            return numberIn(cells, i);
        }

        void write(int i, int v) {
            changeIn(cells, i, cutToLane(v));
        }

        private int cutToLane(int v) {
            switch (lane) {
                case BYTES:
                    return (byte) v;
                case SHORTS:
                    return (short) v;
                default:
                    return v;
            }
        }

        /** Within one sheet the cells may overlap: arraycopy takes them as they were. */
        void copyTo(int i, Sheet target, int j, int n) {
            if (hasCells(i, n) && target.hasCells(j, n)) {
                System.arraycopy(cells, i, target.cells, j, n);
            }
        }
    }

    /** How a text goes on: a step is named by what stands last. */
    private static final class Text {
        private static final int TAKEN = -1;
        private static final int NO_STEP = -1, START = 0, HEAD = 1, SOUR = 2, COMMA = 3, DAY = 4;
        private static final int SEMICOLON = 5, LETTER = 6, STAY = 7, SPOONS = 8, NEED = 9;
        private static final int CODE_D = 100, CODE_E = 101, CODE_L = 108, CODE_S = 115;
        private static final int CODE_COMMA = 44, CODE_SEMICOLON = 59, CODE_0 = 48;

        static int firstFault(Sheet text, int from, int n) {
            int step = START;
            int days = 0;
            int eaters = 0;
            for (int place = 0; place < n; place++) {
                step = stepAfter(step, text.numberAt(from + place), days, eaters);
                if (step == NO_STEP) {
                    return place;
                }
                days += step == DAY ? 1 : 0;
                eaters += step == SEMICOLON ? 1 : 0;
            }
            return step == NEED ? TAKEN : n;
        }

        private static int stepAfter(int step, int code, int days, int eaters) {
            switch (step) {
                case START:
                    return code == CODE_D ? HEAD : NO_STEP;
                case HEAD:
                    return isDigit(code, 0, MOST_LOOK) ? SOUR : NO_STEP;
                case SOUR:
                    return code == CODE_COMMA ? COMMA : NO_STEP;
                case COMMA:
                    return isDigit(code, 0, MOST_LOOK) ? DAY : NO_STEP;
                case DAY:
                    return stepAfterDay(code, days);
                case SEMICOLON:
                    return kindByLetter(code) == NONE ? NO_STEP : LETTER;
                case LETTER:
                    return isDigit(code, 0, MOST_STAY) ? STAY : NO_STEP;
                case STAY:
                    return isDigit(code, 1, MOST_SPOONS) ? SPOONS : NO_STEP;
                case SPOONS:
                    return isDigit(code, 0, MOST_NEED) ? NEED : NO_STEP;
                case NEED:
                    return code == CODE_SEMICOLON && eaters < MOST_EATERS ? SEMICOLON : NO_STEP;
                default:
                    return NO_STEP;
            }
        }

        private static int stepAfterDay(int code, int days) {
            if (code == CODE_SEMICOLON) {
                return SEMICOLON;
            }
            return isDigit(code, 0, MOST_LOOK) && days < MOST_DAYS ? DAY : NO_STEP;
        }

        static int kindByLetter(int code) {
            switch (code) {
                case CODE_E:
                    return EATER;
                case CODE_S:
                    return SLY;
                case CODE_L:
                    return STRANGER;
                default:
                    return NONE;
            }
        }

        private static boolean isDigit(int code, int least, int most) {
            return code >= CODE_0 + least && code <= CODE_0 + most;
        }

        static boolean isDigitAt(Sheet text, int i) {
            return isDigit(text.numberAt(i), 0, MOST_LOOK);
        }

        static int digitAt(Sheet text, int i) {
            return text.numberAt(i) - CODE_0;
        }
    }
}
