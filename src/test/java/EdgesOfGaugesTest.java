/** The edges that the document names in IV and in promises 27 to 33, a test to each sentence. */
public final class EdgesOfGaugesTest {
    private static final int ALL = 41 * 41 * 41;

    public static void main(String[] args) {
        threeGauges();
        oneAtFirst();
        seen();
        readIsCut();
        greatestRead();
        readings();
        askedNoMore();
        doubts();
        withinDoubt();
        fortyAtMost();
        noneOpen();
        whats();
        hidden();
        fourStages();
        stageNumbers();
        notTold();
        fromFloorOn();
        threeHundredAtMost();
        orMore();
        zeroAtLeast();
        allUnderIt();
        marks();
        loadFromFloorOn();
        greatestHeat();
        ofItAlone();
        loadUnderOneThatRunsAway();
        Check.end();
    }

    /** "GAUGES 0 .. 2". */
    private static void threeGauges() {
        NearNothing x = new NearNothing();
        x.room(1, 0);
        for (int gauge : new int[] {-1, 3}) {
            Check.due("IV: no GAUGE SEES " + gauge, x.sees(gauge, 0, 1), -1);
            Check.due("IV: no GAUGE reads " + gauge, x.reads(gauge, 0), -1);
            Check.due("IV: no GAUGE is asked " + gauge, x.reading(gauge, 1), -1);
        }
        for (int gauge = 0; gauge < 3; gauge++) {
            Check.due("IV: a GAUGE SEES " + gauge, x.sees(gauge, 0, gauge), 1);
        }
        x.gas(0, 0, 100, false);
        for (int gauge = 0; gauge < 3; gauge++) {
            Check.due("IV: each for itself", x.reads(gauge, 0), 10 * gauge);
        }
    }

    /** "told, 1 at first". */
    private static void oneAtFirst() {
        NearNothing x = new NearNothing();
        x.room(1, 0);
        for (int gas = 0; gas < 3; gas++) {
            x.gas(0, gas, 10, false);
        }
        for (int gauge = 0; gauge < 3; gauge++) {
            Check.due("28: each GAS once", x.reads(gauge, 0), 3);
            for (int gas = 0; gas < 3; gas++) {
                Check.due("27: 1 at first", x.sees(gauge, gas, 2), 1);
            }
            Check.due("28: each GAS twice", x.reads(gauge, 0), 6);
        }
    }

    /** "SEES of each GAS (0 .. 9". */
    private static void seen() {
        NearNothing x = new NearNothing();
        x.room(1, 0);
        x.gas(0, 2, 10, false);
        Check.due("27: -1", x.sees(0, 2, -1), -4);
        Check.due("27: 10", x.sees(0, 2, 10), -6);
        Check.due("27: 9", x.sees(0, 2, 9), 1);
        Check.due("28: nine times", x.reads(0, 0), 9);
        Check.due("27: 0", x.sees(0, 2, 0), 9);
        Check.due("28: not at all", x.reads(0, 0), 0);
        Check.due("27: it was 0", x.sees(0, 2, 5), 0);
        Check.due("27: GAS -1", x.sees(0, -1, 5), -1);
        Check.due("27: GAS 3", x.sees(0, 3, 5), -1);
    }

    /** "the sum of SEES times grains, by 10, cut". */
    private static void readIsCut() {
        NearNothing x = new NearNothing();
        x.room(1, 0);
        x.room(1, 0);
        Check.due("28: none", x.reads(0, 0), 0);
        x.gas(0, 0, 9, false);
        Check.due("28: 9 by 10", x.reads(0, 0), 0);
        x.gas(0, 1, 1, false);
        Check.due("28: 10 by 10", x.reads(0, 0), 1);
        x.gas(0, 2, 9, false);
        Check.due("28: 19 by 10", x.reads(0, 0), 1);
        x.gas(0, 2, 50, true);
        Check.due("28: none of the WALL", x.reads(0, 0), 1);
        Check.due("28: none of another ROOM", x.reads(0, 1), 0);
        Check.due("28: no ROOM 2", x.reads(0, 2), -1);
        Check.due("28: no ROOM -1", x.reads(0, -1), -1);
    }

    /** "2000000000 at most": grains never suffice for it, but a sum of SEES 9 is no wrap-around. */
    private static void greatestRead() {
        NearNothing x = new NearNothing();
        x.room(1, 0);
        for (int gas = 0; gas < 3; gas++) {
            x.sees(0, gas, 9);
            x.leak(0, gas, 999);
            for (int k = 0; k < 10; k++) {
                x.gas(0, gas, 99999, false);
            }
        }
        for (int k = 0; k < 25; k++) {
            x.ticks(200);
        }
        Check.due("28: nine times nearly 18 million, by 10", x.reads(0, 0), 9L * (3 * 999990 + 3 * 999 * 5000) / 10);
    }

    /** Promise 29: "A reading (0 .. 9999) of a GAUGE is asked, or (-1) no more". */
    private static void readings() {
        NearNothing x = new NearNothing();
        Check.due("29: -2", x.reading(0, -2), -4);
        Check.due("29: 10000", x.reading(0, 10000), -6);
        Check.due("30: none is asked", x.trueGas(0, 0), ALL);
        Check.due("29: 9999", x.reading(0, 9999), 1);
        Check.due("30: more than there can be", x.trueGas(9, 0), 0);
        Check.due("29: 0", x.reading(0, 0), 1);
        Check.due("30: up to 9 grains", x.trueGas(0, 4), 9);
        Check.due("29: -1", x.reading(0, -1), 1);
        Check.due("30: none is asked", x.trueGas(0, 0), ALL);
    }

    /** A reading told again takes the place of the one before; one no more asked leaves the others. */
    private static void askedNoMore() {
        NearNothing x = new NearNothing();
        x.reading(0, 9999);
        x.reading(1, 0);
        x.reading(0, 0);
        int both = x.trueGas(0, 0);
        Check.due("29: the reading before is gone", both > 0 ? 1 : 0, 1);
        x.reading(0, -1);
        Check.due("29: the other one is asked still", x.trueGas(0, 0), both);
        x.reading(1, -1);
        Check.due("29: none is", x.trueGas(0, 0), ALL);
        Check.due("29: no more again", x.reading(1, -1), 1);
    }

    /** "DOUBT (0 .. 9)". */
    private static void doubts() {
        NearNothing x = onlyGasZero(9);
        x.reading(0, 20);
        Check.due("30: -1", x.trueGas(-1, 0), -4);
        Check.due("30: 10", x.trueGas(10, 0), -6);
        Check.due("30: DOUBT 0", x.trueGas(0, 1), 23);
        Check.due("30: DOUBT 0", x.trueGas(0, 4), 23);
        Check.due("30: DOUBT 9", x.trueGas(9, 1), 13);
        Check.due("30: DOUBT 9", x.trueGas(9, 4), 33);
    }

    private static NearNothing onlyGasZero(int sees) {
        NearNothing x = new NearNothing();
        x.sees(0, 0, sees);
        x.sees(0, 1, 0);
        x.sees(0, 2, 0);
        return x;
    }

    /** "would read within DOUBT .. of a told reading": both ends are within. */
    private static void withinDoubt() {
        NearNothing x = onlyGasZero(5);
        x.reading(0, 10);
        for (int doubt = 0; doubt <= 9; doubt++) {
            int least = 41;
            int greatest = -1;
            for (int grains = 0; grains <= 40; grains++) {
                if (Math.abs(grains * 5 / 10 - 10) <= doubt) {
                    least = Math.min(least, grains);
                    greatest = Math.max(greatest, grains);
                }
            }
            Check.due("30: least within " + doubt, x.trueGas(doubt, 1), least);
            Check.due("30: greatest within " + doubt, x.trueGas(doubt, 4), greatest);
            Check.due("30: so many within " + doubt, x.trueGas(doubt, 0), (greatest - least + 1) * 1681L);
        }
        for (int gauge = 0; gauge < 3; gauge++) {
            for (int gas = 0; gas < 3; gas++) {
                oneOfNine(gauge, gas);
            }
        }
        x.reading(0, 3);
        Check.due("30: within 3 of 3 is 0, too", x.trueGas(3, 1), 0);
        Check.due("30: within 2 of 3 is 1", x.trueGas(2, 1), 2);
        Check.due("30: within 9 of 3", x.trueGas(9, 1), 0);
    }

    /** By each GAUGE of each GAS: 0 just below and just at 10 of the sum, SEEN once and nine times. */
    private static void oneOfNine(int gauge, int gas) {
        NearNothing x = new NearNothing();
        for (int other = 0; other < 3; other++) {
            x.sees(gauge, other, other == gas ? 9 : 0);
        }
        x.reading(gauge, 1);
        Check.due("30: 18 by 10 is the least for 1", x.trueGas(0, 1 + gas), 2);
        Check.due("30: and the greatest", x.trueGas(0, 4 + gas), 2);
        x.reading(gauge, 0);
        Check.due("30: 9 by 10 is the greatest for 0", x.trueGas(0, 4 + gas), 1);
        x.sees(gauge, gas, 1);
        Check.due("30: SEEN once, 9 by 10", x.trueGas(0, 4 + gas), 9);
        Check.due("30: so many", x.trueGas(0, 0), 10 * 1681);
        x.reading(gauge, 4);
        Check.due("30: SEEN once, 40 by 10", x.trueGas(0, 1 + gas), 40);
        Check.due("30: within 1, from 30 on", x.trueGas(1, 1 + gas), 30);
        Check.due("30: the others are free", x.trueGas(0, 4 + (gas + 1) % 3), 40);
    }

    /** "all grains of the three GASES 0 .. 40". */
    private static void fortyAtMost() {
        NearNothing x = new NearNothing();
        Check.due("30: 41 times 41 times 41", x.trueGas(0, 0), ALL);
        for (int gas = 0; gas < 3; gas++) {
            Check.due("30: the least is 0", x.trueGas(0, 1 + gas), 0);
            Check.due("30: the greatest is 40", x.trueGas(0, 4 + gas), 40);
            x.sees(0, gas, 9);
        }
        x.reading(0, 108);
        Check.due("30: 1080 by 10: 40 of each alone", x.trueGas(0, 0), 1);
        x.reading(0, 117);
        Check.due("30: within 9 of 117", x.trueGas(9, 0), 1);
        Check.due("30: 40", x.trueGas(9, 1), 40);
        x.reading(0, 118);
        Check.due("30: none within 9 of 118", x.trueGas(9, 0), 0);
        x.reading(0, 0);
        Check.due("30: 0 or 1 grain in all", x.trueGas(0, 0), 4);
    }

    /** "-9 none": no least, no greatest, and 0 how many. */
    private static void noneOpen() {
        NearNothing x = new NearNothing();
        x.reading(0, 0);
        x.reading(1, 9);
        Check.due("30: how many", x.trueGas(0, 0), 0);
        for (int what = 1; what <= 6; what++) {
            Check.due("30: none, what " + what, x.trueGas(0, what), -9);
        }
        Check.due("30: none is HIDDEN though", x.trueGas(0, 7), 0);
        Check.due("30: with DOUBT there are some", x.trueGas(5, 0) > 0 ? 1 : 0, 1);
    }

    private static void whats() {
        NearNothing x = new NearNothing();
        Check.due("30: what -1", x.trueGas(0, -1), -2);
        Check.due("30: what 8", x.trueGas(0, 8), -2);
        Check.due("30: what 8 ahead of DOUBT", x.trueGas(10, 8), -2);
        Check.due("30: what 7", x.trueGas(0, 7), 7);
        Check.due("30: what 7 with DOUBT -1", x.trueGas(-1, 7), -4);
        Check.due("30: what 7 with DOUBT 10", x.trueGas(10, 7), -6);
    }

    /** "HIDDEN: a GAS that no asked GAUGE SEES". */
    private static void hidden() {
        NearNothing x = new NearNothing();
        Check.due("30: none is asked: all", x.trueGas(0, 7), 7);
        x.sees(0, 0, 0);
        x.sees(0, 2, 0);
        x.reading(0, 5);
        Check.due("30: GAS 0 and 2", x.trueGas(0, 7), 5);
        x.sees(1, 0, 9);
        x.sees(1, 2, 0);
        Check.due("30: one that is not asked", x.trueGas(0, 7), 5);
        x.reading(1, 0);
        Check.due("30: a reading of 0 is asked", x.trueGas(0, 7), 4);
        x.reading(1, -1);
        Check.due("30: asked no more", x.trueGas(0, 7), 5);
        x.sees(0, 1, 0);
        Check.due("30: it SEES none", x.trueGas(0, 7), 7);
    }

    /** "STAGES 0 .. 3". */
    private static void fourStages() {
        NearNothing x = new NearNothing();
        for (int k : new int[] {-1, 4}) {
            Check.due("IV: no STAGE told " + k, x.stage(k, 0, 1, 0, 0), -1);
            Check.due("IV: no STAGE rests " + k, x.restCold(k), -1);
            Check.due("IV: no STAGE's LOAD " + k, x.load(k, 0), -1);
        }
        for (int k = 0; k < 4; k++) {
            Check.due("IV: a STAGE", x.stage(k, 10 * k, 1, 0, 1), 1);
        }
        for (int k = 0; k < 4; k++) {
            Check.due("IV: rests", x.restCold(k), 10 * k + 1);
        }
    }

    /** "FLOOR (0 .. 299), POWER (1 .. 99 ..), WIRE (0 .. 99 ..), HEAT (0 .. 9999 besides)". */
    private static void stageNumbers() {
        NearNothing x = new NearNothing();
        x.stage(0, 7, 1, 0, 0);
        Check.due("31: FLOOR -1", x.stage(0, -1, 1, 0, 0), -4);
        Check.due("31: FLOOR 300", x.stage(0, 300, 1, 0, 0), -6);
        Check.due("31: POWER 0", x.stage(0, 0, 0, 0, 0), -4);
        Check.due("31: POWER 100", x.stage(0, 0, 100, 0, 0), -6);
        Check.due("31: WIRE -1", x.stage(0, 0, 1, -1, 0), -4);
        Check.due("31: WIRE 100", x.stage(0, 0, 1, 100, 0), -6);
        Check.due("31: HEAT -1", x.stage(0, 0, 1, 0, -1), -4);
        Check.due("31: HEAT 10000", x.stage(0, 0, 1, 0, 10000), -6);
        Check.due("31: refused, so 7 still", x.restCold(0), 7);
        Check.due("31: the greatest", x.stage(0, 299, 99, 99, 9999), 1);
        Check.due("32: 99 is less than 9999", x.restCold(0), -9);
        Check.due("31: HEAT 99", x.stage(0, 299, 99, 99, 99), 1);
        Check.due("32: 99 at 300", x.restCold(0), 300);
        Check.due("31: the least", x.stage(0, 0, 1, 0, 0), 1);
        Check.due("32: 0", x.restCold(0), 0);
        Check.due("31: HEAT 9999, POWER 99", x.stage(0, 0, 99, 0, 9999), 1);
        Check.due("32: 99 times 101", x.restCold(0), 101);
        Check.due("31: WIRE 99, POWER 99", x.stage(0, 0, 99, 99, 0), 1);
        Check.due("32: half way", x.restCold(0), 150);
    }

    /** "(Not told: FLOOR 0, POWER 1, WIRE 0, HEAT 0.)". */
    private static void notTold() {
        NearNothing x = new NearNothing();
        for (int k = 0; k < 4; k++) {
            Check.due("32: FLOOR 0, HEAT 0, WIRE 0", x.restCold(k), 0);
            Check.due("33: POWER 1", x.load(k, 1), 1);
            Check.due("33: POWER 1", x.load(k, 300), 300);
        }
    }

    /** "the least whole degree from FLOOR on". */
    private static void fromFloorOn() {
        NearNothing x = new NearNothing();
        x.stage(0, 77, 5, 0, 0);
        Check.due("32: just at FLOOR", x.restCold(0), 77);
        x.stage(0, 77, 5, 0, 1);
        Check.due("32: one above", x.restCold(0), 78);
        x.stage(0, 77, 5, 0, 5);
        Check.due("32: one above", x.restCold(0), 78);
        x.stage(0, 77, 5, 0, 6);
        Check.due("32: two above", x.restCold(0), 79);
    }

    /** "300 at most .. none: it RUNS AWAY". */
    private static void threeHundredAtMost() {
        NearNothing x = new NearNothing();
        x.stage(0, 200, 1, 0, 100);
        Check.due("32: 300", x.restCold(0), 300);
        x.stage(0, 200, 1, 0, 101);
        Check.due("32: RUNS AWAY", x.restCold(0), -9);
        x.stage(0, 200, 1, 99, 100);
        Check.due("32: no WIRE's help needed at 300", x.restCold(0), 300);
        x.stage(0, 299, 1, 99, 2);
        Check.due("32: RUNS AWAY", x.restCold(0), -9);
    }

    /** "is WIRE times (..) and HEAT or more". */
    private static void orMore() {
        NearNothing x = new NearNothing();
        x.stage(0, 0, 2, 1, 0);
        Check.due("32: 2 times 100 is 200", x.restCold(0), 100);
        x.stage(0, 0, 2, 1, 1);
        Check.due("32: 2 times 100 is less than 201", x.restCold(0), 101);
        x.stage(0, 0, 2, 1, 3);
        Check.due("32: 2 times 101 is 199 and 3", x.restCold(0), 101);
        x.stage(0, 0, 2, 1, 4);
        Check.due("32: but less than 203", x.restCold(0), 102);
    }

    /** "(degree of the one ahead less it, 0 at least)". */
    private static void zeroAtLeast() {
        NearNothing x = new NearNothing();
        x.stage(1, 100, 3, 99, 7);
        Check.due("32: the one ahead is at 0", x.restCold(1), 103);
        x.stage(0, 102, 1, 0, 0);
        Check.due("32: at 102", x.restCold(1), 103);
        x.stage(0, 103, 1, 0, 0);
        Check.due("32: at 103", x.restCold(1), 103);
        x.stage(0, 104, 1, 0, 0);
        Check.due("32: at 104, 99 of it", x.restCold(1), 104);
    }

    /** "it RUNS AWAY (and all under it)". */
    private static void allUnderIt() {
        NearNothing x = new NearNothing();
        x.stage(1, 0, 1, 0, 301);
        Check.due("32: the one ahead rests", x.restCold(0), 0);
        Check.due("32: RUNS AWAY", x.restCold(1), -9);
        Check.due("32: under it", x.restCold(2), -9);
        Check.due("32: and under that", x.restCold(3), -9);
        x.stage(1, 0, 1, 0, 300);
        Check.due("32: rests", x.restCold(1), 300);
        Check.due("32: under it", x.restCold(2), 0);
        Check.due("32: and under that", x.restCold(3), 0);
    }

    /** Promise 33: "LOAD for a mark (0 .. 300)". */
    private static void marks() {
        NearNothing x = new NearNothing();
        Check.due("33: -1", x.load(0, -1), -4);
        Check.due("33: 301", x.load(0, 301), -6);
        Check.due("33: 0", x.load(0, 0), 0);
        Check.due("33: 300", x.load(0, 300), 300);
        Check.due("33: no STAGE ahead of the mark", x.load(4, 301), -1);
    }

    /** "-9 none": a mark below FLOOR, or one at which the WIRE alone is too much. */
    private static void loadFromFloorOn() {
        NearNothing x = new NearNothing();
        x.stage(0, 50, 4, 0, 0);
        Check.due("33: below FLOOR", x.load(0, 49), -9);
        Check.due("33: at FLOOR", x.load(0, 50), 0);
        Check.due("33: above", x.load(0, 51), 4);
        x.stage(0, 50, 1, 1, 0);
        Check.due("33: 124 of 176", x.load(0, 174), -9);
        Check.due("33: 125 of 125", x.load(0, 175), 0);
        Check.due("33: 126 of 124", x.load(0, 176), 2);
        x.stage(0, 50, 2, 1, 0);
        Check.due("33: 166 of 167", x.load(0, 133), -9);
        Check.due("33: 168 of 166", x.load(0, 134), 2);
        x.stage(0, 299, 1, 0, 0);
        Check.due("33: mark 0", x.load(0, 0), -9);
    }

    /** "the greatest HEAT (of 0 .. 9999)". */
    private static void greatestHeat() {
        NearNothing x = new NearNothing();
        x.stage(0, 0, 99, 0, 0);
        Check.due("33: 99 times 100", x.load(0, 100), 9900);
        Check.due("33: 99 times 101 is 9999", x.load(0, 101), 9999);
        Check.due("33: no more", x.load(0, 102), 9999);
        x.stage(0, 0, 99, 0, x.load(0, 101));
        Check.due("32: it rests there", x.restCold(0), 101);
    }

    /** "of it alone": its own HEAT does not count, that of the ones ahead does. */
    private static void ofItAlone() {
        NearNothing x = new NearNothing();
        x.stage(0, 10, 1, 0, 90);
        x.stage(1, 10, 2, 1, 9999);
        Check.due("32: the one ahead at 100", x.restCold(0), 100);
        Check.due("32: RUNS AWAY itself", x.restCold(1), -9);
        Check.due("33: 2 times 40 less 50", x.load(1, 50), 30);
        Check.due("32: nothing changed", x.restCold(1), -9);
        x.stage(2, 0, 1, 0, 9999);
        Check.due("33: one under it counts nothing", x.load(1, 50), 30);
        x.stage(0, 10, 1, 0, 80);
        Check.due("33: the one ahead at 90", x.load(1, 50), 40);
    }

    private static void loadUnderOneThatRunsAway() {
        NearNothing x = new NearNothing();
        x.stage(1, 299, 1, 0, 2);
        Check.due("33: ahead of it", x.load(0, 5), 5);
        Check.due("33: itself, with another HEAT", x.load(1, 300), 1);
        Check.due("33: under it", x.load(2, 300), -9);
        Check.due("33: and under that", x.load(3, 300), -9);
    }
}
