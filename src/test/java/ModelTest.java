import java.util.ArrayList;
import java.util.List;

/**
 * Long runs of calls, many of them wrong ones, against a second telling of the document's promises, written from
 * its words by days and meals one at a time. The calls are drawn by a fixed rule, so that each run is the same.
 */
public final class ModelTest {
    private static final int RUNS = 3000;
    // An object is promised for 512 calls: a text, the longest step, takes up to some forty.
    private static final int CALLS = 460;
    private static final int[] STRANGE = {Integer.MIN_VALUE, -100, -2, -1, 7, 8, 10, 16, 61, 64, 1000, Integer.MAX_VALUE};

    private static long drawn = 1;
    private static int used = 0;

    private static int draw(int below) {
        drawn = drawn * 6364136223846793005L + 1442695040888963407L;
        return (int) ((drawn >>> 33) % below);
    }

    /** Mostly a number from 0 on, now and then a strange one. */
    private static int some(int below) {
        return draw(12) == 0 ? STRANGE[draw(STRANGE.length)] : draw(below);
    }

    public static void main(String[] args) {
        for (int run = 0; run < RUNS; run++) {
            MustardFast x = new MustardFast();
            Model m = new Model();
            for (used = 0; used < CALLS; used += 2) {
                call(x, m, run);
                Due.is(m.fault, x.fault(), "run " + run + ": fault()");
            }
        }
        Due.end();
    }

    private static void call(MustardFast x, Model m, int run) {
        int a = some(4);
        int b = some(4);
        int c = some(12);
        int d = some(12);
        int e = some(16);
        String at = "run " + run + ": ";
        String abc = "(" + a + ", " + b + ", " + c + ", " + d + ", " + e + ")";
        switch (draw(35)) {
            case 0: case 1: case 2: text(x, m, at); break;
            case 3: Due.is(m.ofEater(a, c), x.ofEater(a, c), at + "ofEater a c " + abc); break;
            case 4: Due.is(m.look(b), x.look(b), at + "look b " + abc); break;
            case 5: Due.is(m.pull(b, c), x.pull(b, c), at + "pull b c " + abc); break;
            case 6: Due.is(m.sour(c), x.sour(c), at + "sour c " + abc); break;
            case 7: { int v = some(7); Due.is(m.crave(a, v), x.crave(a, v), at + "crave a v " + abc); break; }
            case 8: Due.is(m.fasts(), x.fasts(), at + "fasts"); break;
            case 9: { int s = some(64); Due.is(m.yellow(a, s), x.yellow(a, s), at + "yellow a s " + s + abc); break; }
            case 10: { int s = some(64); int w = some(2);
                Due.is(m.found(a, s, w), x.found(a, s, w), at + "found a s w " + s + " " + w + abc); break; }
            case 11: case 12: case 13: plan(x, m, at); break;
            case 14: { int w = some(2); Due.is(m.best(a, w), x.best(a, w), at + "best a w " + w + abc); break; }
            case 15: Due.is(m.village(), x.village(), at + "village"); break;
            case 16: { int w = some(2); Due.is(m.smile(w), x.smile(w), at + "smile " + w); break; }
            case 17: case 18: case 19: { int s = some(64); int day = some(6); boolean was = truth(m, a, s, day);
                Due.is(m.reading(a, s, day, was), x.reading(a, s, day, was), at + "reading a s d " + s + abc); break; }
            case 20: Due.is(m.back(b), x.back(b), at + "back b " + abc); break;
            case 21: Due.is(m.stays(a), x.stays(a), at + "stays a " + abc); break;
            case 22: Due.is(m.kinds(a), x.kinds(a), at + "kinds a " + abc); break;
            case 23: Due.is(m.sours(), x.sours(), at + "sours"); break;
            case 24: { int s = some(64); int w = some(2);
                Due.is(m.odds(a, s, w), x.odds(a, s, w), at + "odds a s w " + s + " " + w + abc); break; }
            case 25: { int n = some(61); int l = some(3);
                Due.is(m.sheet(a, l, n), x.sheet(a, l, n), at + "sheet a l n " + l + " " + n + abc); break; }
            case 26: Due.is(m.lose(a), x.lose(a), at + "lose a " + abc); break;
            case 27: { int v = (draw(1 << 30) << 2) + draw(4);
                Due.is(m.put(a, c, v), x.put(a, c, v), at + "put a c v " + v + abc); break; }
            case 28: Due.is(m.cell(a, c, b), x.cell(a, c, b), at + "cell a c b " + abc); break;
            case 29: Due.is(m.copy(a, c, b, d, e), x.copy(a, c, b, d, e), at + "copy a c b d e" + abc); break;
            case 30: Due.is(m.tell(a), x.tell(a), at + "tell a " + abc); break;
            case 31: Due.is(m.sniff(a), x.sniff(a), at + "sniff a " + abc); break;
            case 32: { int k = some(3); Due.is(m.as(a, k), x.as(a, k), at + "as a k " + k + abc); break; }
            case 33: Due.is(m.trace, x.trace(), at + "trace"); break;
            default: Due.is(m.many(b), x.many(b), at + "many b " + abc); break;
        }
    }

    /** Mostly what is so, so that readings leave something to tell. */
    private static boolean truth(Model m, int a, int set, int day) {
        boolean isFound = m.hasEater(a) && m.isSet(set) && m.hasDay(day)
                && m.isYellow(set, day, m.lasts(m.eaters.get(a)[0], m.eaters.get(a)[1])) && m.looks.get(day) >= m.sour;
        return isFound != (draw(5) == 0);
    }

    private static void text(MustardFast x, Model m, String at) {
        StringBuilder text = new StringBuilder("d" + draw(10) + ",");
        for (int d = draw(6); d >= 0; d--) {
            text.append(draw(10));
        }
        for (int a = draw(4); a >= 0; a--) {
            text.append(';').append("esl".charAt(draw(3))).append(draw(6)).append(1 + draw(9)).append(draw(7));
        }
        if (draw(4) == 0) {
            text.setCharAt(draw(text.length()), "d5,9;esl06".charAt(draw(10)));
        }
        int k = draw(4);
        int lane = draw(3);
        int from = draw(3);
        int length = Math.min(60, from + text.length() + draw(2));
        Due.is(m.sheet(k, lane, length), x.sheet(k, lane, length), at + "sheet for a text");
        for (int i = 0; i < text.length(); i++) {
            m.put(k, from + i, text.charAt(i));
            x.put(k, from + i, text.charAt(i));
            used++;
        }
        int n = draw(4) == 0 ? some(text.length() + 2) : text.length();
        int as = draw(10) == 0 ? some(3) : lane;
        Due.is(m.duchy(k, as, from, n), x.duchy(k, as, from, n), at + "duchy " + text + " of " + n + " as " + as);
    }

    private static void plan(MustardFast x, Model m, String at) {
        int k = some(4);
        int lane = some(3);
        int days = Math.max(1, m.looks.size());
        int count = Math.max(1, m.eaters.size());
        Due.is(m.sheet(k, lane, 6), x.sheet(k, lane, 6), at + "sheet for a plan");
        for (int i = 0; i < 6; i++) {
            int set = some(1 << days);
            Due.is(m.put(k, i, set), x.put(k, i, set), at + "put for a plan");
            used++;
        }
        int from = draw(3);
        int n = draw(6) == 0 ? some(5) : count;
        int what = draw(2) == 0 ? some(4) : 10 + some(6);
        Due.is(m.plan(k, lane, from, n, what), x.plan(k, lane, from, n, what),
                at + "plan " + k + " " + lane + " " + from + " " + n + " " + what);
    }

    /** The second telling. */
    private static final class Model {
        private static final long LOST = Long.MIN_VALUE;

        List<Integer> looks = new ArrayList<>();
        List<int[]> eaters = new ArrayList<>();
        int sour = 0;
        List<Object[]> readings = new ArrayList<>();
        int[][] rows = new int[4][];
        int[] lanes = new int[4];
        int trace = 0;
        int fault = 0;

        boolean hasEater(int a) {
            return a >= 0 && a < eaters.size();
        }

        boolean hasDay(int d) {
            return d >= 0 && d < looks.size();
        }

        boolean isSet(int set) {
            return set >= 0 && set < Math.pow(2, looks.size());
        }

        int fault(int f) {
            fault = f;
            return -10 - f;
        }

        /** 0 where the cells can be taken, else the answer due. */
        int cells(int k, int lane, int i, int n) {
            if (rows[k] != null && lanes[k] != lane) {
                return fault(2);
            }
            if (rows[k] == null) {
                return fault(1);
            }
            if (n < 0) {
                return fault(4);
            }
            if (i < 0 || i > rows[k].length || (long) i + n > rows[k].length) {
                return fault(3);
            }
            return 0;
        }

        int duchy(int k, int lane, int i, int n) {
            fault = 0;
            if (k < 0 || k > 3) {
                return -1;
            }
            if (lane < 0 || lane > 2) {
                return -2;
            }
            int refused = cells(k, lane, i, n);
            if (refused != 0) {
                return refused;
            }
            StringBuilder text = new StringBuilder();
            for (int c = i; c < i + n; c++) {
                text.append((char) Math.max(0, Math.min(1000, rows[k][c])));
            }
            String whole = "d[0-9],[0-9]{1,6}(;[esl][0-5][1-9][0-6]){1,4}";
            if (!text.toString().matches(whole)) {
                return -100 - firstFault(text.toString(), whole);
            }
            String[] parts = text.toString().split("[,;]");
            sour = parts[0].charAt(1) - '0';
            looks.clear();
            for (char look : parts[1].toCharArray()) {
                looks.add(look - '0');
            }
            eaters.clear();
            for (int p = 2; p < parts.length; p++) {
                eaters.add(new int[] {"esl".indexOf(parts[p].charAt(0)), parts[p].charAt(1) - '0',
                    parts[p].charAt(2) - '0', parts[p].charAt(3) - '0'});
            }
            readings.clear();
            return eaters.size();
        }

        /** How long the longest beginning is that some text has, too. */
        private static int firstFault(String text, String whole) {
            java.util.regex.Pattern pattern = java.util.regex.Pattern.compile(whole);
            for (int n = text.length(); n > 0; n--) {
                java.util.regex.Matcher matcher = pattern.matcher(text.substring(0, n));
                if (matcher.matches() || matcher.hitEnd()) {
                    return n;
                }
            }
            return 0;
        }

        int ofEater(int a, int what) {
            if (!hasEater(a)) {
                return -1;
            }
            if (what < 0 || what > 4) {
                return -2;
            }
            int[] e = eaters.get(a);
            return what == 4 ? lasts(e[0], e[1]) : e[what];
        }

        int lasts(int kind, int stay) {
            int lasts = stay;
            if (kind >= 1) {
                lasts = Math.max(0, lasts - 1);
            }
            if (kind >= 2) {
                lasts /= 2;
            }
            return lasts;
        }

        int look(int d) {
            return hasDay(d) ? looks.get(d) : -1;
        }

        int pull(int d, int v) {
            return !hasDay(d) ? -1 : v < 0 || v > 9 ? -2 : looks.set(d, v);
        }

        int sour(int v) {
            if (v < 0 || v > 9) {
                return -2;
            }
            if (eaters.isEmpty()) {
                return -3;
            }
            int was = sour;
            sour = v;
            return was;
        }

        int crave(int a, int v) {
            if (!hasEater(a)) {
                return -1;
            }
            if (v < 0 || v > 6) {
                return -2;
            }
            int was = eaters.get(a)[3];
            eaters.get(a)[3] = v;
            return was;
        }

        int fasts() {
            if (eaters.isEmpty()) {
                return -3;
            }
            int set = 0;
            for (int d = 0; d < looks.size(); d++) {
                set += looks.get(d) >= sour ? 1 << d : 0;
            }
            return set;
        }

        /** Whether a meal of the set is on the day, or so few days ahead of it. */
        boolean isYellow(int set, int day, int lasts) {
            for (int meal = Math.max(0, day - lasts); meal <= day; meal++) {
                if ((set & 1 << meal) != 0) {
                    return true;
                }
            }
            return false;
        }

        int yellowSet(int a, int set) {
            int yellow = 0;
            for (int d = 0; d < looks.size(); d++) {
                yellow += isYellow(set, d, ofEater(a, 4)) ? 1 << d : 0;
            }
            return yellow;
        }

        int yellow(int a, int set) {
            return !hasEater(a) ? -1 : !isSet(set) ? -2 : yellowSet(a, set);
        }

        int found(int a, int set, int what) {
            if (!hasEater(a)) {
                return -1;
            }
            if (!isSet(set) || what < 0 || what > 1) {
                return -2;
            }
            int found = yellowSet(a, set) & fasts();
            return what == 0 ? found : size(found) * eaters.get(a)[2];
        }

        private static int size(int set) {
            int size = 0;
            for (int b = 0; b < 32; b++) {
                size += set >>> b & 1;
            }
            return size;
        }

        int plan(int k, int lane, int i, int n, int what) {
            fault = 0;
            if (k < 0 || k > 3) {
                return -1;
            }
            if (lane < 0 || lane > 2 || what < 0 || what > 15 || what > 3 && what < 10) {
                return -2;
            }
            if (eaters.isEmpty()) {
                return -3;
            }
            int refused = cells(k, lane, i, n);
            if (refused != 0) {
                return refused;
            }
            if (n != eaters.size()) {
                return -2;
            }
            int fines = 0;
            int foundEaters = 0;
            int hungry = 0;
            int[] foundOn = new int[6];
            for (int a = 0; a < n; a++) {
                int set = rows[k][i + a];
                if (!isSet(set)) {
                    return -2;
                }
                fines += found(a, set, 1);
                foundEaters += found(a, set, 0) != 0 ? 1 << a : 0;
                hungry += size(set) < eaters.get(a)[3] ? 1 << a : 0;
                for (int d = 0; d < 6; d++) {
                    foundOn[d] += found(a, set, 0) >> d & 1;
                }
            }
            if (what >= 10) {
                return hasDay(what - 10) ? foundOn[what - 10] : -9;
            }
            int first = 0;
            while (first < 6 && foundOn[first] == 0) {
                first++;
            }
            return new int[] {fines, first < 6 ? first : -9, foundEaters, hungry}[what];
        }

        int best(int a, int what) {
            if (!hasEater(a)) {
                return -1;
            }
            if (what < 0 || what > 1) {
                return -2;
            }
            // Fine, how many days and the set, one behind the other in one number.
            int least = Integer.MAX_VALUE;
            for (int set = 0; isSet(set); set++) {
                if (size(set) >= eaters.get(a)[3]) {
                    least = Math.min(least, (found(a, set, 1) * 10 + size(set)) * 100 + set);
                }
            }
            return least == Integer.MAX_VALUE ? -9 : what == 0 ? least % 100 : least / 1000;
        }

        int village() {
            if (eaters.isEmpty()) {
                return -3;
            }
            int pays = 0;
            for (int a = 0; a < eaters.size(); a++) {
                if (best(a, 1) == -9) {
                    return -9;
                }
                pays += best(a, 1);
            }
            return pays;
        }

        int smile(int what) {
            if (what < 0 || what > 1) {
                return -2;
            }
            if (eaters.isEmpty()) {
                return -3;
            }
            if (village() == -9) {
                return -9;
            }
            int best = Integer.MAX_VALUE;
            int sourWas = sour;
            for (int d = 0; d < looks.size(); d++) {
                int was = looks.get(d);
                if (was >= sour) {
                    looks.set(d, sour - 1);
                    best = Math.min(best, village() * 10 + d);
                    looks.set(d, was);
                }
            }
            sour = sourWas;
            return best == Integer.MAX_VALUE ? -9 : what == 0 ? best % 10 : best / 10;
        }

        int reading(int a, int set, int d, boolean was) {
            if (!hasEater(a)) {
                return -1;
            }
            if (!isSet(set)) {
                return -2;
            }
            if (!hasDay(d)) {
                return -1;
            }
            if (readings.size() == 8) {
                return -4;
            }
            readings.add(new Object[] {a, set, d, was});
            return readings.size() - 1;
        }

        int back(int k) {
            if (k < 0 || k > readings.size()) {
                return -2;
            }
            for (int r = 0; r < k; r++) {
                readings.remove(readings.size() - 1);
            }
            return readings.size();
        }

        boolean allSo() {
            for (Object[] r : readings) {
                boolean isFound = (found((Integer) r[0], (Integer) r[1], 0) >> (Integer) r[2] & 1) == 1;
                if (isFound != (Boolean) r[3]) {
                    return false;
                }
            }
            return true;
        }

        /** The set of numbers by which all is so, put in place of one of an eater's for a while. */
        int inPlaceOf(int a, int which, int most) {
            int was = eaters.get(a)[which];
            int set = 0;
            for (int v = 0; v <= most; v++) {
                eaters.get(a)[which] = v;
                set += allSo() ? 1 << v : 0;
            }
            eaters.get(a)[which] = was;
            return set;
        }

        int stays(int a) {
            return hasEater(a) ? inPlaceOf(a, 1, 5) : -1;
        }

        int kinds(int a) {
            return hasEater(a) ? inPlaceOf(a, 0, 2) : -1;
        }

        int sours() {
            if (eaters.isEmpty()) {
                return -3;
            }
            int was = sour;
            int set = 0;
            for (sour = 0; sour <= 9; sour++) {
                set += allSo() ? 1 << sour : 0;
            }
            sour = was;
            return set;
        }

        long odds(int a, int set, int which) {
            if (!hasEater(a) || !isSet(set) || which < 0 || which > 1) {
                return LOST;
            }
            int all = 0;
            int never = 0;
            for (int fasts = 0; isSet(fasts); fasts++) {
                all++;
                never += (fasts & yellowSet(a, set)) == 0 ? 1 : 0;
            }
            for (int d = 2; d <= never; d++) {
                while (never % d == 0 && all % d == 0) {
                    never /= d;
                    all /= d;
                }
            }
            return which == 0 ? never : all;
        }

        int sheet(int k, int lane, int n) {
            fault = 0;
            if (k < 0 || k > 3) {
                return -1;
            }
            if (lane < 0 || lane > 2 || n > 60) {
                return -2;
            }
            if (n < 0) {
                return fault(4);
            }
            rows[k] = new int[n];
            lanes[k] = lane;
            return 1;
        }

        int lose(int k) {
            if (k < 0 || k > 3) {
                return -1;
            }
            int had = rows[k] == null ? 0 : 1;
            rows[k] = null;
            return had;
        }

        int put(int k, int i, int v) {
            fault = 0;
            if (k < 0 || k > 3) {
                return -1;
            }
            int refused = cells(k, lanes[k], i, 1);
            if (refused != 0) {
                return refused;
            }
            rows[k][i] = lanes[k] == 0 ? (byte) v : lanes[k] == 1 ? (short) v : v;
            return 1;
        }

        long cell(int k, int i, int lane) {
            fault = 0;
            if (k < 0 || k > 3 || lane < 0 || lane > 2 || cells(k, lane, i, 1) != 0) {
                return LOST;
            }
            return rows[k][i];
        }

        int copy(int k, int i, int other, int j, int n) {
            fault = 0;
            if (k < 0 || k > 3 || other < 0 || other > 3) {
                return -1;
            }
            if (rows[k] == null || rows[other] == null) {
                return fault(1);
            }
            if (lanes[k] != lanes[other]) {
                return fault(2);
            }
            if (i < 0 || j < 0 || n < 0 || (long) i + n > rows[k].length || (long) j + n > rows[other].length) {
                return fault(3);
            }
            int[] as = rows[k].clone();
            for (int c = 0; c < n; c++) {
                rows[other][j + c] = as[i + c];
            }
            return n;
        }

        int begin(int body, int gives) {
            trace = trace * 31 + body;
            return gives;
        }

        int tell(int a) {
            if (!hasEater(a)) {
                return -1;
            }
            int[] e = eaters.get(a);
            int told = e[0] == 2 ? begin(3, 0) : 0;
            told += e[0] >= 1 ? begin(2, 100) : 0;
            told += begin(1, e[2]);
            return told + (e[0] == 2 ? begin(1, e[2]) : 0);
        }

        int sniff(int a) {
            return !hasEater(a) ? -1 : eaters.get(a)[0] == 2 ? begin(5, 40) : begin(4, a);
        }

        int as(int a, int kind) {
            fault = 0;
            return !hasEater(a) ? -1 : kind < 0 || kind > 2 ? -2 : eaters.get(a)[0] < kind ? fault(2) : 1;
        }

        int many(int what) {
            int[] counts = {eaters.size(), looks.size(), sour, readings.size()};
            return what < 0 || what > 3 ? -2 : counts[what];
        }
    }
}
