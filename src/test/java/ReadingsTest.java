/** Promises 15 to 20: readings, and what follows of them; odds. */
public final class ReadingsTest {
    public static void main(String[] args) {
        readingNumbers();
        refusalsOfReading();
        back();
        stays();
        kinds();
        sours();
        readingsOfOthers();
        asTheyAreWhenItIsAsked();
        odds();
        Due.end();
    }

    private static void readingNumbers() {
        MustardFast x = Due.told(Due.VILLAGE);
        for (int r = 0; r < 8; r++) {
            Due.is(r, x.reading(r % 3, 15, r % 4, true), "reading " + r);
            Due.is(r + 1, x.many(3), "readings there are");
        }
        Due.is(-4, x.reading(0, 0, 0, true), "a ninth");
        Due.is(8, x.many(3), "still eight");
        Due.is(6, x.back(2), "two back");
        Due.is(6, x.reading(0, 0, 0, false), "numbered by how many there are");
    }

    private static void refusalsOfReading() {
        MustardFast x = Due.told(Due.VILLAGE);
        Due.is(-1, x.reading(3, 16, 4, true), "nobody");
        Due.is(-1, x.reading(-1, 0, 0, true), "eater -1");
        Due.is(-2, x.reading(0, 16, 4, true), "a set of a fifth day, ahead of the day");
        Due.is(-2, x.reading(0, -1, 0, true), "set -1");
        Due.is(-1, x.reading(0, 0, 4, true), "day 4");
        Due.is(-1, x.reading(0, 0, -1, true), "day -1");
        Due.is(0, x.many(3), "no readings");
        for (int r = 0; r < 8; r++) {
            x.reading(0, 0, 0, false);
        }
        Due.is(-1, x.reading(3, 0, 0, true), "nobody ahead of FULL");
        Due.is(-2, x.reading(0, 16, 0, true), "a wrong set ahead of FULL");
        Due.is(-1, x.reading(0, 0, 4, true), "a wrong day ahead of FULL");
        Due.is(-4, x.reading(0, 0, 0, true), "FULL");
        Due.is(-1, new MustardFast().reading(0, 0, 0, true), "reading without a duchy");
    }

    private static void back() {
        MustardFast x = Due.told(Due.VILLAGE);
        Due.is(0, x.back(0), "none of none");
        Due.is(-2, x.back(1), "one of none");
        x.reading(0, 1, 0, true);
        x.reading(0, 1, 3, true);
        Due.is(0, x.sours(), "the second is not so");
        Due.is(-2, x.back(3), "more than there are");
        Due.is(-2, x.back(-1), "back -1");
        Due.is(2, x.back(0), "none");
        Due.is(1, x.back(1), "the last one is taken back");
        Due.is(127, x.sours(), "the first is left");
        Due.is(0, x.back(1), "all back");
        Due.is(0, new MustardFast().back(0), "back without a duchy");
        Due.is(-2, new MustardFast().back(1), "one of none without a duchy");
    }

    private static void stays() {
        MustardFast x = Due.told("d5,999999;e210;s210;l210");
        for (int a = 0; a < 3; a++) {
            Due.is(63, x.stays(a), "stays without readings");
        }
        staysBy(0, 2, true, 0b111100);
        staysBy(0, 2, false, 0b000011);
        staysBy(1, 2, true, 0b111000);
        staysBy(1, 2, false, 0b000111);
        staysBy(2, 2, true, 0b100000);
        staysBy(2, 2, false, 0b011111);
        staysBy(2, 1, true, 0b111000);
        staysBy(0, 0, true, 63);
        staysBy(0, 0, false, 0);
        Due.is(-1, x.stays(3), "stays of nobody");
        Due.is(-1, x.stays(-1), "stays of -1");
        x.reading(0, 1, 1, true);
        x.reading(0, 1, 3, false);
        Due.is(0b000110, x.stays(0), "by two readings");
        Due.is(2, x.ofEater(0, 1), "the stay is as it was");
    }

    /** One eater's meal on day 0, and whether one was found some days behind. */
    private static void staysBy(int kind, int behind, boolean was, int want) {
        MustardFast x = Due.told("d5,999999;" + "esl".charAt(kind) + "210");
        x.reading(0, 1, behind, was);
        Due.is(want, x.stays(0), "stays of kind " + kind + ", " + behind + " behind, " + was);
    }

    private static void kinds() {
        MustardFast x = Due.told("d5,999999;e510;l010");
        Due.is(7, x.kinds(0), "kinds without readings");
        x.reading(0, 1, 5, false);
        Due.is(6, x.kinds(0), "no eater");
        x.reading(0, 1, 4, true);
        Due.is(2, x.kinds(0), "the sly alone");
        x.back(1);
        x.reading(0, 1, 4, false);
        Due.is(4, x.kinds(0), "the stranger alone");
        x.back(2);
        x.reading(1, 1, 1, false);
        Due.is(7, x.kinds(1), "of stay 0 all kinds are alike");
        Due.is(-1, x.kinds(2), "kinds of nobody");
        Due.is(-1, x.kinds(-1), "kinds of -1");
    }

    private static void sours() {
        Due.is(-3, new MustardFast().sours(), "sours without a duchy");
        MustardFast x = Due.told("d5,639999;e110");
        Due.is(1023, x.sours(), "sours without readings");
        x.reading(0, 1, 0, true);
        Due.is(0b0001111111, x.sours(), "found by a look of 6");
        x.reading(0, 1, 1, false);
        Due.is(0b0001110000, x.sours(), "not found by a look of 3");
        x.reading(0, 1, 2, true);
        Due.is(0, x.sours(), "found with a tongue that is not yellow");
        x.back(1);
        x.reading(0, 1, 2, false);
        Due.is(0b0001110000, x.sours(), "not found with a tongue that is not yellow");
        Due.is(5, x.many(2), "sour is as it was");
    }

    /** In place of what it is alone: the readings of others, too, must be so. */
    private static void readingsOfOthers() {
        MustardFast x = Due.told("d5,999999;e210;e210");
        x.reading(1, 1, 2, true);
        Due.is(63, x.stays(0), "another's reading that is so");
        Due.is(0b111100, x.stays(1), "one's own");
        x.reading(1, 1, 1, false);
        Due.is(0, x.stays(0), "another's reading that is not so");
        Due.is(0, x.kinds(0), "nor any kind");
        Due.is(0, x.stays(1), "nor any stay of the other");
    }

    private static void asTheyAreWhenItIsAsked() {
        MustardFast x = Due.told("d5,999999;e210");
        x.reading(0, 1, 2, true);
        Due.is(0b111100, x.stays(0), "the look is a fast's");
        x.pull(2, 4);
        Due.is(0, x.stays(0), "the look is no fast's any more");
        Due.is(0, x.kinds(0), "for kinds, too");
        Due.is(0b0000011111, x.sours(), "for sours, too");
        x.sour(4);
        Due.is(0b111100, x.stays(0), "the fast is told by less");
        Due.is(1, x.kinds(0), "for kinds, too");
    }

    private static void odds() {
        MustardFast x = Due.told("d5,999999;e013;e213;s513;l513");
        odds(x, 0, 0, 1);
        odds(x, 0, 63, 64);
        odds(x, 1, 1, 8);
        odds(x, 1, 0b100011, 32);
        odds(x, 2, 2, 32);
        odds(x, 3, 2, 8);
        x.sour(9);
        x.pull(0, 0);
        x.reading(1, 1, 0, true);
        odds(x, 1, 1, 8);
        Due.is(Long.MIN_VALUE, x.odds(4, 64, 2), "odds of nobody");
        Due.is(Long.MIN_VALUE, x.odds(-1, 0, 0), "odds of -1");
        Due.is(Long.MIN_VALUE, x.odds(0, 64, 0), "odds of a seventh day");
        Due.is(Long.MIN_VALUE, x.odds(0, -1, 0), "odds of set -1");
        Due.is(Long.MIN_VALUE, x.odds(0, 0, 2), "odds 2");
        Due.is(Long.MIN_VALUE, x.odds(0, 0, -1), "odds -1");
        Due.is(Long.MIN_VALUE, new MustardFast().odds(0, 0, 0), "odds without a duchy");
    }

    private static void odds(MustardFast x, int a, int set, int lower) {
        Due.is(1, x.odds(a, set, 0), "upper odds of " + a + ", " + set);
        Due.is(lower, x.odds(a, set, 1), "lower odds of " + a + ", " + set);
    }
}
