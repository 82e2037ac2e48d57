/** Promises 27 to 33: gauges, true gases, stages of cold. */
public final class GaugesTest {
    public static void main(String[] args) {
        sight();
        readings();
        trueGases();
        hidden();
        stages();
        degrees();
        loads();
        Check.end();
    }

    private static void sight() {
        NearNothing x = new NearNothing();
        Check.due("27: gauge 3", x.sees(3, 0, -1), -1);
        Check.due("27: gas 3", x.sees(0, 3, -1), -1);
        Check.due("27: gauge -1", x.sees(-1, 0, 0), -1);
        Check.due("27: gas -1", x.sees(0, -1, 0), -1);
        Check.due("27: below", x.sees(0, 0, -1), -4);
        Check.due("27: above", x.sees(0, 0, 10), -6);
        Check.due("27: at first", x.sees(2, 2, 9), 1);
        Check.due("27: was", x.sees(2, 2, 0), 9);
        Check.due("27: others", x.sees(2, 1, 0), 1);
        Check.due("28: no room", x.reads(0, 0), -1);
        x.room(1, 0);
        Check.due("28: gauge 3", x.reads(3, 0), -1);
        Check.due("28: gauge -1", x.reads(-1, 0), -1);
        Check.due("28: room -1", x.reads(0, -1), -1);
        x.gas(0, 0, 5, false);
        x.gas(0, 1, 7, false);
        x.gas(0, 2, 7, false);
        x.gas(0, 2, 90, true);
        Check.due("28: all, cut, no walls", x.reads(0, 0), 1);
        x.sees(0, 0, 9);
        x.sees(0, 1, 0);
        x.sees(0, 2, 2);
        Check.due("28: unlike", x.reads(0, 0), 5);
        Check.due("28: another gauge", x.reads(2, 0), 0);
    }

    private static void readings() {
        NearNothing x = new NearNothing();
        Check.due("29: gauge 3", x.reading(3, -2), -1);
        Check.due("29: below", x.reading(0, -2), -4);
        Check.due("29: above", x.reading(0, 10000), -6);
        Check.due("29: asked", x.reading(0, 9999), 1);
        Check.due("29: asked, the same", x.reading(0, 9999), 1);
        Check.due("29: of another kind", x.trueGas(9, 0), 0);
        Check.due("29: no more", x.reading(0, -1), 1);
        Check.due("29: no more, again", x.reading(0, -1), 1);
        Check.due("29: all gases again", x.trueGas(0, 0), 41 * 41 * 41);
    }

    private static void trueGases() {
        NearNothing x = new NearNothing();
        Check.due("30: what 8", x.trueGas(-1, 8), -2);
        Check.due("30: what -1", x.trueGas(10, -1), -2);
        Check.due("30: below", x.trueGas(-1, 7), -4);
        Check.due("30: above", x.trueGas(10, 7), -6);
        Check.due("30: least at first", x.trueGas(9, 3), 0);
        Check.due("30: greatest at first", x.trueGas(9, 6), 40);
        x.sees(0, 0, 5);
        x.sees(0, 1, 0);
        x.sees(0, 2, 0);
        x.reading(0, 10);
        // 5 g of gas 0 is 100 .. 109: 20 or 21 grains.
        Check.due("30: how many", x.trueGas(0, 0), 2 * 41 * 41);
        Check.due("30: least", x.trueGas(0, 1), 20);
        Check.due("30: greatest", x.trueGas(0, 4), 21);
        Check.due("30: least with doubt", x.trueGas(1, 1), 18);
        Check.due("30: greatest with doubt", x.trueGas(1, 4), 23);
        Check.due("30: others are free", x.trueGas(0, 6) * 100 + x.trueGas(0, 3), 4000);
        x.reading(1, 12);
        // Gas 1 and 2 with 20 or 21 of gas 0 make 120 .. 129: more than there can be.
        Check.due("30: how many, two gauges", x.trueGas(0, 0), 0);
        Check.due("30: none, least", x.trueGas(0, 3), -9);
        Check.due("30: none, greatest", x.trueGas(0, 6), -9);
        x.reading(1, 10);
        // 100 .. 109 together: of the others 79 or 80 with 21, with 20 80 alone.
        Check.due("30: all but the greatest", x.trueGas(0, 0), 3 + 1);
        Check.due("30: least of gas 1", x.trueGas(0, 2), 39);
        Check.due("30: least of gas 2", x.trueGas(0, 3), 39);
        Check.due("30: greatest of gas 2", x.trueGas(0, 6), 40);
    }

    private static void hidden() {
        NearNothing x = new NearNothing();
        Check.due("30: none asked", x.trueGas(0, 7), 7);
        x.sees(0, 1, 0);
        x.sees(1, 0, 0);
        x.sees(1, 1, 0);
        x.sees(1, 2, 0);
        x.reading(1, 0);
        Check.due("30: a blind one", x.trueGas(0, 7), 7);
        Check.due("30: that reads 0", x.trueGas(0, 0), 41 * 41 * 41);
        x.reading(1, 1);
        Check.due("30: that reads 1", x.trueGas(0, 0), 0);
        Check.due("30: that reads about 1", x.trueGas(1, 0), 41 * 41 * 41);
        x.reading(0, 0);
        Check.due("30: gas 1 is hidden", x.trueGas(0, 7), 2);
        x.reading(2, 0);
        Check.due("30: none is hidden", x.trueGas(0, 7), 0);
        seesOne();
    }

    /** Gauge 2 sees gas 0 or 1 alone, grain for grain: a reading is ten grains wide. */
    private static void seesOne() {
        for (int gas = 0; gas < 3; gas++) {
            NearNothing x = new NearNothing();
            for (int other = 0; other < 3; other++) {
                x.sees(2, other, other == gas ? 1 : 0);
            }
            x.reading(2, 0);
            Check.due("30: reads 0", x.trueGas(0, 0), 10 * 41 * 41);
            Check.due("30: reads 0, greatest", x.trueGas(0, 4 + gas), 9);
            x.reading(2, 1);
            Check.due("30: reads 1", x.trueGas(0, 0), 10 * 41 * 41);
            Check.due("30: reads 1, least", x.trueGas(0, 1 + gas), 10);
            Check.due("30: reads 1, greatest", x.trueGas(0, 4 + gas), 19);
            x.reading(2, 5);
            Check.due("30: reads 5, least", x.trueGas(1, 1 + gas), 40);
            Check.due("30: reads 5, how many", x.trueGas(1, 0), 41 * 41);
            Check.due("30: reads 5 just", x.trueGas(0, 0), 0);
        }
    }

    private static void stages() {
        NearNothing x = new NearNothing();
        Check.due("31: stage 4", x.stage(4, -1, 0, -1, -1), -1);
        Check.due("31: stage -1", x.stage(-1, 0, 1, 0, 0), -1);
        Check.due("31: floor below", x.stage(0, -1, 1, 0, 0), -4);
        Check.due("31: power below", x.stage(0, 300, 0, 0, 0), -4);
        Check.due("31: wire below", x.stage(0, 0, 1, -1, 0), -4);
        Check.due("31: heat below", x.stage(0, 0, 1, 0, -1), -4);
        Check.due("31: floor above", x.stage(0, 300, 1, 0, 0), -6);
        Check.due("31: power above", x.stage(0, 0, 100, 0, 0), -6);
        Check.due("31: wire above", x.stage(0, 0, 1, 100, 0), -6);
        Check.due("31: heat above", x.stage(0, 0, 1, 0, 10000), -6);
        Check.due("31: greatest", x.stage(3, 299, 99, 99, 9999), 1);
        Check.due("31: least", x.stage(3, 0, 1, 0, 0), 1);
        Check.due("32: stage 4", x.restCold(4), -1);
        Check.due("32: stage -1", x.restCold(-1), -1);
        Check.due("42: nobody", x.count(11), 4);
    }

    private static void degrees() {
        NearNothing x = new NearNothing();
        Check.due("32: not told", x.restCold(2), 0);
        x.stage(0, 100, 1, 1, 0);
        Check.due("32: half way", x.restCold(0), 200);
        x.stage(0, 100, 1, 1, 1);
        Check.due("32: the least whole degree", x.restCold(0), 201);
        x.stage(1, 0, 1, 2, 0);
        Check.due("32: under it", x.restCold(1), 134);
        Check.due("32: not told, under it", x.restCold(3), 0);
        x.stage(0, 299, 1, 0, 1);
        Check.due("32: just at 300", x.restCold(0), 300);
        x.stage(0, 299, 1, 0, 2);
        Check.due("32: runs away", x.restCold(0), -9);
        Check.due("32: all under it", x.restCold(3), -9);
        x.stage(0, 10, 1, 0, 0);
        x.stage(1, 200, 5, 99, 0);
        Check.due("32: warmer than the one ahead", x.restCold(1), 200);
        x.stage(1, 200, 5, 99, 5);
        Check.due("32: which cools nothing", x.restCold(1), 201);
    }

    private static void loads() {
        NearNothing x = new NearNothing();
        Check.due("33: stage 4", x.load(4, -1), -1);
        Check.due("33: stage -1", x.load(-1, 0), -1);
        Check.due("33: below", x.load(0, -1), -4);
        Check.due("33: above", x.load(0, 301), -6);
        Check.due("33: not told", x.load(0, 300), 300);
        x.stage(0, 50, 99, 0, 77);
        Check.due("33: at most", x.load(0, 300), 9999);
        Check.due("33: at the floor", x.load(0, 50), 0);
        Check.due("33: under the floor", x.load(0, 49), -9);
        x.stage(0, 50, 2, 1, 77);
        Check.due("33: less what the wire brings", x.load(0, 150), 50);
        Check.due("33: just none", x.load(0, 134), 2);
        Check.due("33: not even none", x.load(0, 133), -9);
        Check.due("32: nothing changed", x.restCold(0), 159);
        x.stage(1, 50, 2, 1, 9999);
        Check.due("33: under one at rest", x.load(1, 100), 41);
        Check.due("33: warmer than the one ahead", x.load(1, 200), 300);
        x.stage(0, 299, 1, 0, 9);
        Check.due("33: under one that runs away", x.load(1, 300), -9);
        Check.due("33: of that one itself", x.load(0, 300), 1);
    }
}
