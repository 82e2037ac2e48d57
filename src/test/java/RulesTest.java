/** Promises 14 to 23: texts, rules, what they forbid, acts undone and done again, orders. */
public final class RulesTest {
    public static void main(String[] args) {
        feeding();
        faults();
        places();
        sixteen();
        facts();
        joining();
        valves();
        starting();
        warming();
        acts();
        thirtyActs();
        thirtyUnlike(false);
        thirtyUnlike(true);
        forgetting();
        orders();
        orderRefusals();
        Check.end();
    }

    private static void feeding() {
        NearNothing x = new NearNothing();
        Check.due("14: none", x.feed(0, 65), -4);
        Check.due("14: below", x.feed(-1, 65), -4);
        Check.due("14: nine", x.feed(9, 65), -6);
        for (int k = 1; k <= 4; k++) {
            Check.due("14: eight", x.feed(8, Check.bytes("P0:t=1&&")), 8 * k);
        }
        Check.due("14: seven", x.feed(7, 0), 39);
        Check.due("14: two too many", x.feed(2, 0), -6);
        Check.due("14: the last", x.feed(1, -1L), 40);
        Check.due("14: full", x.feed(1, 65), -6);
        Check.due("42: bytes of the text", x.count(8), 40);
        Check.due("15: its fault", x.rule(), -27);
        Check.due("15: the text has none", x.count(8), 0);
        x.feed(4, Check.bytes("P0:t"));
        x.feed(2, Check.bytes(">9999"));
        Check.due("15: the lowest bytes alone", x.rule(), 0);
        Check.due("15: feed with high bytes", x.feed(8, 0x8030313d743a3056L), 8);
        Check.due("15: a high byte", x.rule(), -27);
    }

    private static void faults() {
        fault("", 0);
        fault("p0:t=1", 0);
        fault("P", 1);
        fault("P:", 1);
        fault("PP", 1);
        fault("P0", 2);
        fault("P00:t=1", 2);
        fault("P0:", 3);
        fault("P0: t=1", 3);
        fault("P0:|t=1", 3);
        fault("P0:x0=1", 3);
        fault("P0:r", 4);
        fault("P0:r0", 5);
        fault("P0:r00=1", 5);
        fault("P0:t0=1", 4);
        fault("P0:t==1", 5);
        fault("P0:t<", 5);
        fault("P0:t<a", 5);
        fault("P0:t<-1", 5);
        fault("P0:t<1|", 7);
        fault("P0:t<1&", 7);
        fault("P0:t<1&|", 7);
        fault("P0:t<1!", 6);
        fault("P0:t<1(", 6);
        fault("P0:t<1t", 6);
        fault("P0:()", 4);
        fault("P0:(t<1", 7);
        fault("P0:(t<1))", 8);
        fault("P0:!", 4);
        fault("P0:!)", 4);
        fault("P0:t<123456", 10);
        fault("P0:((((t=1))))&(((((t=1)))))", 19);
        fault("P0:!(!(!t=1))", 7);
        fault("P0:t=1|!!!!(t=1)", 11);
        fault("P0:t=11111&t=11111&t=11111&t=11111&t=111", -1);
        fault("P0:t=11111&t=11111&t=11111&t=11111&t=11&", 40);
    }

    private static void places() {
        fault("V9:v9=1", -1);
        fault("P9:p9<00000", -1);
        fault("P0:!!!!t=1&!!!!t=1", -1);
        fault("P0:((((t=1))))|((((t=1))))", -1);
        fault("P0:!(!(t=1))&(!!!t=1)", -1);
        fault("P0:w0<1|r1=2&v2>3|p3=4&t=99999", -1);
    }

    /** -1: it has none. */
    private static void fault(String text, int place) {
        NearNothing x = new NearNothing();
        Check.feed(x, text);
        Check.due("15: " + text, x.rule(), place < 0 ? 0 : -20 - place);
        Check.due("15: text is gone of " + text, x.count(8), 0);
        Check.due("15: rules after " + text, x.count(6), place < 0 ? 1 : 0);
        Check.due("15: nothing is counted of " + text, x.count(11) + x.count(14) + x.count(16), 0);
    }

    private static void sixteen() {
        NearNothing x = new NearNothing();
        for (int k = 0; k < 16; k++) {
            Check.due("15: a rule", Check.rule(x, "P0:t=0"), k);
        }
        Check.feed(x, "P0:t=0");
        Check.due("15: a seventeenth", x.rule(), -6);
        Check.due("15: it stays", x.count(8), 6);
        Check.due("16: below", x.unrule(-1), -1);
        Check.due("16: above", x.unrule(16), -1);
        Check.due("16: gone", x.unrule(3), 1);
        Check.due("16: gone already", x.unrule(3), -1);
        Check.due("16: the last", x.unrule(15), 1);
        Check.due("42: not gone", x.count(6), 14);
        Check.due("15: numbers are not given again", x.rule(), -6);
        x.room(1, 0);
        x.pump(0, 1, 1, 1, 0);
        x.unrule(0);
        Check.due("17: the least that is left", x.forbids(0, true), 1);
    }

    private static void facts() {
        NearNothing x = plant();
        Check.due("17: no rule", x.forbids(0, true), -9);
        Check.due("17: no pump", x.forbids(2, true), -1);
        Check.due("17: no pipe", x.forbids(1, false), -1);
        Check.due("17: below", x.forbids(-1, false), -1);
        holds(x, "r0=0", true);
        x.gas(0, 0, 1, false);
        holds(x, "r0=33", true);
        holds(x, "r0<33", false);
        holds(x, "r0>33", false);
        holds(x, "r0<34", true);
        holds(x, "r0>32", true);
        holds(x, "r9=0", true);
        holds(x, "w0=5", true);
        holds(x, "w2=0", true);
        holds(x, "w1=00005", true);
        x.warm(1, 0);
        holds(x, "w1<1", true);
        x.ticks(7);
        holds(x, "t=7", true);
        x.gas(1, 0, 99999, false);
        holds(x, "r1>99999", true);
        factsOfParts();
    }

    private static void factsOfParts() {
        NearNothing x = plant();
        holds(x, "v0=0", true);
        x.valve(0, true);
        holds(x, "v0=1", true);
        holds(x, "v9=0", true);
        holds(x, "p1=0", true);
        x.start(1, true);
        holds(x, "p1=1", true);
        holds(x, "p9=0", true);
        holds(x, "t=0", true);
    }

    private static NearNothing plant() {
        NearNothing x = new NearNothing();
        x.room(3, 0);
        x.room(1, 0);
        x.pipe(0, 1, 1);
        x.pump(0, 1, 1, 1, 0);
        x.pump(0, 1, 1, 1, 0);
        return x;
    }

    private static void joining() {
        NearNothing x = new NearNothing();
        x.room(1, 0);
        x.pump(0, 1, 1, 1, 0);
        holds(x, "!t=1", true);
        holds(x, "!t=0", false);
        holds(x, "!!t=0", true);
        holds(x, "!t=1&t=1", false);
        holds(x, "!(t=1&t=1)", true);
        holds(x, "!(t=1&t=0)", true);
        holds(x, "!(t=0|t=1)", false);
        holds(x, "t=0|t=1&t=1", true);
        holds(x, "(t=0|t=1)&t=1", false);
        holds(x, "t=1&t=1|t=0", true);
        holds(x, "t=1&(t=1|t=0)", false);
        holds(x, "t=0&t=0&t=0&t=1", false);
        holds(x, "t=1|t=1|t=1|t=0", true);
        holds(x, "((t=0&(t=1|(t=0))))", true);
        holds(x, "t=0&t=1|t=0&!t=1", true);
    }

    private static void holds(NearNothing x, String test, boolean due) {
        int rule = Check.rule(x, "P0:" + test);
        Check.due("17: " + test, x.forbids(0, true), due ? rule : -9);
        Check.due("17: of another pump or valve " + test,
                x.count(4) > 1 ? x.forbids(1, true) : -9, -9);
        Check.due("15: " + test, rule >= 0 ? 1 : rule, 1);
        x.unrule(rule);
    }

    private static void valves() {
        NearNothing x = new NearNothing();
        Check.due("18: none", x.valve(0, true), -1);
        x.room(1, 0);
        x.room(1, 0);
        x.pipe(0, 1, 1);
        Check.rule(x, "V0:t=0");
        Check.due("18: forbidden", x.valve(0, true), -7);
        Check.due("18: it was so", x.valve(0, false), 0);
        Check.due("17: least rule", x.forbids(0, false), 0);
        x.ticks(1);
        Check.due("18: not forbidden then", x.valve(0, true), 1);
        Check.rule(x, "V0:t>0");
        Check.due("18: it is open, so not asked", x.valve(0, true), 0);
        Check.due("18: shutting is not forbidden", x.valve(0, false), 1);
        Check.due("18: opening is", x.valve(0, true), -7);
        Check.due("18: below", x.valve(-1, false), -1);
        Check.due("42: forbidden ones", x.count(17), 2);
        Check.due("42: nobody", x.count(11), 2);
    }

    private static void starting() {
        NearNothing x = new NearNothing();
        Check.due("19: none", x.start(0, true), -1);
        x.room(1, 0);
        x.pump(0, 1, 1, 1, 9);
        Check.rule(x, "P0:p0=0&t=0");
        Check.due("19: it was so", x.start(0, false), 0);
        Check.due("19: forbidden", x.start(0, true), -7);
        x.warmUp(0);
        Check.due("19: warmed before forbidden", x.start(0, true), -3);
        Check.due("19: stopping a warmed one", x.start(0, false), 0);
        x.ticks(1);
        Check.due("19: started", x.start(0, true), 1);
        Check.due("42: on", x.count(5), 1);
        Check.due("19: stopped", x.start(0, false), 1);
        Check.due("19: below", x.start(-1, true), -1);
    }

    private static void warming() {
        NearNothing x = new NearNothing();
        Check.due("20: none", x.warmUp(0), -1);
        x.room(1, 0);
        x.pump(0, 1, 1, 1, 0);
        x.pump(0, 1, 1, 1, 1);
        Check.due("20: no trap", x.warmUp(0), -3);
        x.start(1, true);
        Check.due("20: warmed", x.warmUp(1), 1);
        Check.due("20: off", x.count(5), 0);
        Check.due("20: it was so", x.warmUp(1), 0);
        Check.due("21: undone", x.undo(), 1);
        Check.due("21: on again", x.pumpOf(1, 0), 1);
        Check.due("21: not warmed", x.pumpOf(1, 4), 0);
        Check.due("22: done again", x.redo(), 1);
        Check.due("22: off again", x.pumpOf(1, 0), 0);
        Check.due("22: warmed", x.pumpOf(1, 4), 1);
        x.undo();
        x.start(1, false);
        Check.due("20: an off one", x.warmUp(1), 1);
        x.undo();
        Check.due("21: it stays off", x.pumpOf(1, 0), 0);
    }

    private static void acts() {
        NearNothing x = new NearNothing();
        Check.due("21: none", x.undo(), -3);
        Check.due("22: none", x.redo(), -3);
        Check.due("42: states refused", x.count(13), 2);
        x.room(1, 0);
        x.room(1, 0);
        x.pipe(0, 1, 1);
        x.pump(0, 1, 1, 1, 0);
        x.valve(0, true);
        x.start(0, true);
        x.valve(0, false);
        Check.due("42: three acts", x.count(7), 3);
        Check.due("18: no act", x.valve(0, false), 0);
        Check.due("42: still three acts", x.count(7), 3);
        Check.due("21: the latest", x.undo(), 1);
        Check.due("21: open again", x.count(3), 1);
        Check.due("21: the one before", x.undo(), 1);
        Check.due("21: off again", x.count(5), 0);
        Check.due("42: one left", x.count(7), 1);
        Check.rule(x, "P0:t=0");
        Check.rule(x, "V0:t=0");
        Check.due("22: rules are not asked", x.redo(), 1);
        Check.due("22: on", x.count(5), 1);
        Check.due("22: the next", x.redo(), 1);
        Check.due("22: shut", x.count(3), 0);
        Check.due("22: no more", x.redo(), -3);
        Check.due("21: rules are not asked", x.undo(), 1);
        Check.due("21: open", x.count(3), 1);
        Check.due("19: a refused act", x.start(5, true), -1);
        Check.due("22: still there", x.redo(), 1);
        x.undo();
        Check.due("19: another act", x.start(0, false), 1);
        Check.due("22: gone", x.redo(), -3);
        Check.due("42: acts", x.count(7), 3);
    }

    private static void thirtyActs() {
        NearNothing x = new NearNothing();
        x.room(1, 0);
        x.pump(0, 1, 1, 1, 0);
        for (int k = 0; k < 33; k++) {
            x.start(0, k % 2 == 0);
        }
        Check.due("42: thirty are kept", x.count(7), 30);
        for (int k = 0; k < 30; k++) {
            Check.due("21: undone", x.undo(), 1);
            Check.due("21: then", x.count(5), k % 2);
        }
        Check.due("21: no more", x.undo(), -3);
        for (int k = 0; k < 30; k++) {
            Check.due("22: again", x.redo(), 1);
        }
        Check.due("22: no more", x.redo(), -3);
        Check.due("22: on", x.count(5), 1);
    }

    /** 35 acts of all kinds; the first five are dropped, the others go back and forth in order. */
    private static void thirtyUnlike(boolean byTurns) {
        for (int gone = 0; gone <= 30; gone++) {
            NearNothing x = acted(byTurns, 35);
            for (int k = 0; k < gone; k++) {
                Check.due("21: undone", x.undo(), 1);
            }
            long due = state(acted(byTurns, 35 - gone));
            Check.due("21: the state before the last " + gone + " acts", state(x), due);
            if (gone == 30) {
                Check.due("21: the first ones are dropped", x.undo(), -3);
            }
            for (int k = 0; k < gone; k++) {
                Check.due("22: done again", x.redo(), 1);
            }
            Check.due("22: the state behind all acts", state(x), state(acted(byTurns, 35)));
        }
    }

    private static NearNothing acted(boolean byTurns, int acts) {
        NearNothing x = new NearNothing();
        x.room(1, 0);
        x.room(1, 0);
        for (int k = 0; k < 7; k++) {
            x.pipe(0, 1, 1);
            x.pump(0, 1, 1, 1, 1);
            Check.rule(x, "V" + k + ":v" + k + "=1");
        }
        for (int k = 0; k < acts; k++) {
            Check.due("18 to 20: an act", byTurns ? actByTurns(x, k) : actInRows(x, k), 1);
        }
        return x;
    }

    private static int actInRows(NearNothing x, int k) {
        int number = k % 7;
        int kind = k / 7;
        if (kind == 4) {
            return x.warmUp(number);
        }
        return kind == 0 || kind == 3 ? x.valve(number, kind == 0) : x.start(number, kind == 1);
    }

    private static int actByTurns(NearNothing x, int k) {
        int number = k / 2 % 7;
        boolean on = k / 14 % 2 == 0;
        return k % 2 == 0 ? x.valve(number, on) : x.start(number, on);
    }

    /** Which valves are open (a rule for each tells it), which pumps are on, which are warmed. */
    private static long state(NearNothing x) {
        long state = x.count(3);
        for (int k = 0; k < 7; k++) {
            long open = x.forbids(k, false) >= 0 ? 1 : 0;
            state = state << 3 | open << 2 | (long) x.pumpOf(k, 0) << 1 | x.pumpOf(k, 4);
        }
        return state;
    }

    private static void forgetting() {
        for (int way = 0; way < 12; way++) {
            NearNothing x = new NearNothing();
            x.room(1, 0);
            x.room(1, 0);
            x.pump(0, 1, 1, 1, 0);
            x.start(0, true);
            x.start(0, false);
            x.undo();
            boolean forgets = way < 8;
            tell(x, way);
            Check.due("21: acts kept after telling " + way, x.count(7), forgets ? 0 : 1);
            Check.due("22: undone ones kept after telling " + way, x.redo(), forgets ? -3 : 1);
        }
    }

    private static void tell(NearNothing x, int way) {
        switch (way) {
            case 0: x.room(1, 0); break;
            case 1: x.warm(0, 5); break;
            case 2: x.gas(0, 0, 1, true); break;
            case 3: x.gives(0, 0, 0); break;
            case 4: x.pipe(0, 1, 1); break;
            case 5: x.pump(0, 1, 1, 1, 0); break;
            case 6: x.leak(0, 0, 0); break;
            case 7: x.ticks(1); break;
            case 8: x.room(0, 0); x.warm(0, 10); x.ticks(0); x.leak(0, 0, 1000); break;
            case 9: x.when(0, 1, 300); break;
            case 10: Check.rule(x, "P0:t=0"); x.unrule(0); break;
            default: x.offer(0, 1, 1); x.square(0, 0, true); x.stage(0, 1, 1, 1, 1); break;
        }
    }

    private static void orders() {
        NearNothing x = new NearNothing();
        x.room(1, 0);
        for (int k = 0; k < 8; k++) {
            x.pump(0, 1, 1, 1, k == 7 ? 5 : 0);
        }
        Check.due("23: by numbers", x.order(0b111111, 5), 5);
        Check.rule(x, "P0:!p5=1");
        Check.rule(x, "P1:p0=1");
        Check.rule(x, "P2:p3=0|p1=0");
        Check.rule(x, "P5:!(p2=1)");
        due(x, 0b111111, 1, 3, 2, 4, 5, 0);
        due(x, 0b000010, 1);
        due(x, 0b101111, 1, 3, 2, 5, 0);
        due(x, 0b000001);
        due(x, 0b001100);
        x.start(1, true);
        due(x, 0b001100, 3, 2);
        due(x, 0b101101, 3, 2, 5, 0);
        Check.due("23: nothing changed", x.count(5), 1);
        x.warmUp(7);
        due(x, 0b10001000);
        x.undo();
        due(x, 0b10001000, 3, 7);
        Check.rule(x, "P3:p7=0");
        due(x, 0b10001000, 7, 3);
        Check.rule(x, "P7:r0=0");
        due(x, 0b10001000);
    }

    private static void due(NearNothing x, int set, int... pumps) {
        for (int i = 0; i < 8; i++) {
            Check.due("23: of " + set + " the " + i + ".", x.order(set, i),
                    i < pumps.length ? pumps[i] : -9);
        }
    }

    private static void orderRefusals() {
        NearNothing x = new NearNothing();
        Check.due("23: empty", x.order(0, 0), -9);
        Check.due("23: none", x.order(1, 0), -1);
        x.room(1, 0);
        for (int k = 0; k < 8; k++) {
            x.pump(0, 1, 1, 1, 0);
        }
        Check.due("23: below 0", x.order(-1, -1), -1);
        Check.due("23: with others", x.order(256, 0), -1);
        Check.due("23: least int", x.order(Integer.MIN_VALUE, 0), -1);
        Check.due("23: greatest int", x.order(Integer.MAX_VALUE, 0), -1);
        Check.due("23: seven, i below", x.order(127, -1), -4);
        Check.due("23: seven", x.order(127, 0), -6);
        Check.due("23: six", x.order(0b11101110, 0), 1);
        Check.due("23: far", x.order(1, Integer.MAX_VALUE), -9);
        x.start(0, true);
        Check.due("23: on", x.order(1, 0), -1);
        Check.due("23: seven with one on", x.order(127, 0), -1);
    }
}
