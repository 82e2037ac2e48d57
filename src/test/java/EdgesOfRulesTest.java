/** The edges that the document names in II, VI and promises 14 to 23, a test to each sentence. */
public final class EdgesOfRulesTest {
    public static void main(String[] args) {
        fortyBytes();
        bytesAtOnce();
        lowestFirst();
        greatBytes();
        textHasNoneThen();
        emptyText();
        sixteenRules();
        sixteenLongOnes();
        goneRules();
        targets();
        targetFaults();
        facts();
        factsWithout();
        relations();
        greatPushes();
        numbers();
        sixthDigit();
        fourDeep();
        fifthOne();
        endOfTheText();
        firstThatCanNotStand();
        fullText();
        nothingIsCounted();
        whileItHolds();
        whileOthersAreOn();
        leastRule();
        valveWasSo();
        pumpWasSo();
        warmedWasSo();
        warmedIsNotStarted();
        noTrap();
        noActs();
        noneUndone();
        thirtyActs();
        thirtyOfAllKinds();
        forgetting();
        refusedTellings();
        doneAgain();
        otherActs();
        rulesAreNotAsked();
        undoneWarming();
        sixPumps();
        sets();
        noIth();
        firstByNumbers();
        warmedOnes();
        onlyWhichAreOn();
        Check.end();
    }

    private static NearNothing plant(int pumps) {
        NearNothing x = new NearNothing();
        x.room(1, 0);
        x.room(1, 0);
        x.pipe(0, 1, 1);
        for (int k = 0; k < pumps; k++) {
            x.pump(0, 1, 1, 1, 0);
        }
        return x;
    }

    /** "TEXTS (40 bytes at most)", promise 14 "-6 (above 40, too)". */
    private static void fortyBytes() {
        NearNothing x = new NearNothing();
        for (int k = 1; k <= 4; k++) {
            Check.due("14: how many it has", x.feed(8, 0), 8 * k);
        }
        Check.due("14: 33", x.feed(1, 0), 33);
        Check.due("14: 41", x.feed(8, 0), -6);
        Check.due("14: refused, so 33 still", x.count(8), 33);
        Check.due("14: 40", x.feed(7, 0), 40);
        Check.due("14: 41", x.feed(1, 0), -6);
        Check.due("14: 48", x.feed(8, 0), -6);
        Check.due("14: below stays -4", x.feed(0, 0), -4);
        Check.due("42: 40", x.count(8), 40);
    }

    /** Promise 14: "n (1 .. 8) bytes come to the TEXT". */
    private static void bytesAtOnce() {
        NearNothing x = new NearNothing();
        Check.due("14: 0", x.feed(0, 65), -4);
        Check.due("14: -1", x.feed(-1, 65), -4);
        Check.due("14: 9", x.feed(9, 65), -6);
        Check.due("14: none came", x.count(8), 0);
        Check.due("14: 1", x.feed(1, 80), 1);
        Check.due("14: 8", x.feed(8, Check.bytes("0:t>9999")), 9);
        Check.due("15: P0:t>9999", x.rule(), 0);
    }

    /** "the lowest first". */
    private static void lowestFirst() {
        NearNothing x = new NearNothing();
        x.feed(8, 0x30303d743a3050L);
        Check.due("15: the eighth byte is 0", x.rule(), -27);
        x.feed(7, 0x7f30303d743a3050L);
        Check.due("15: P0:t=00, the eighth is not fed", x.rule(), 0);
        x.feed(1, 0x56L | 0x4100L);
        x.feed(4, Check.bytes("0:t="));
        x.feed(1, 0x31L | 0x3100L);
        Check.due("14: V0:t=1", x.count(8), 6);
        Check.due("15: V0:t=1", x.rule(), 1);
    }

    /** Bytes of 128 and more can not stand; the eighth byte's sign is no sign of the others. */
    private static void greatBytes() {
        NearNothing x = new NearNothing();
        x.feed(8, 0xb1303d743a3050L | 0xffL << 56);
        Check.due("15: byte 0xb1 is not the digit 1", x.rule(), -26);
        x.feed(8, 0x80303d743a3050L);
        Check.due("15: byte 0x80", x.rule(), -26);
        x.feed(1, -1L);
        Check.due("15: byte 0xff", x.rule(), -20);
        x.feed(8, Long.MIN_VALUE | Check.bytes("P0:t=11"));
        Check.due("15: byte 0x80 as the eighth", x.rule(), -27);
        x.feed(7, Long.MIN_VALUE | Check.bytes("P0:t=11"));
        Check.due("15: not fed", x.rule(), 0);
    }

    /** Promise 15: "The TEXT, which has none then", as a RULE and with a FAULT. */
    private static void textHasNoneThen() {
        NearNothing x = new NearNothing();
        Check.due("15: a RULE", Check.rule(x, "P0:t=0"), 0);
        Check.due("15: none then", x.count(8), 0);
        Check.due("15: a FAULT", Check.rule(x, "P0:t=0;"), -26);
        Check.due("15: none then", x.count(8), 0);
        Check.due("14: from one on", Check.feed(x, "P"), 1);
        Check.due("15: nothing of the one before", x.rule(), -21);
    }

    /** "the end, if something lacks": of a TEXT that has none, 0. */
    private static void emptyText() {
        NearNothing x = new NearNothing();
        Check.due("15: no TEXT", x.rule(), -20);
        Check.due("15: again", x.rule(), -20);
        Check.due("42: no RULE", x.count(6), 0);
    }

    /** "RULES have numbers from 0 on (16 at most)", promise 15 "-6 16. (Refused: it stays.)". */
    private static void sixteenRules() {
        NearNothing x = plant(1);
        for (int k = 0; k < 16; k++) {
            Check.due("15: a RULE", Check.rule(x, k == 15 ? "P0:t=0" : "P0:t=1"), k);
        }
        Check.due("42: 16", x.count(6), 16);
        Check.due("17: the sixteenth", x.forbids(0, true), 15);
        Check.due("15: a seventeenth", Check.rule(x, "P0:t=0"), -6);
        Check.due("15: it stays", x.count(8), 6);
        Check.due("15: refused again", x.rule(), -6);
        Check.due("14: it goes on", x.feed(1, 59), 7);
        Check.due("15: refused with a FAULT, too", x.rule(), -6);
        Check.due("15: it stays", x.count(8), 7);
        Check.due("42: 16", x.count(6), 16);
        Check.due("42: REFUSALS -6", x.count(16), 3);
    }

    /** 16 TEXTS of 40 bytes: each is read for itself. */
    private static void sixteenLongOnes() {
        NearNothing x = plant(8);
        for (int k = 0; k < 16; k++) {
            String last = k % 2 == 0 ? "0" : "1";
            Check.due("14: 40 bytes", Check.feed(x, "P" + k / 2 + ":t=1|t=1|t=1|t=1|t=1|t=1|t=1|t=1|t=00" + last), 40);
            Check.due("15: a RULE", x.rule(), k);
        }
        for (int pump = 0; pump < 8; pump++) {
            Check.due("17: t=000", x.forbids(pump, true), 2 * pump);
        }
        x.ticks(1);
        for (int pump = 0; pump < 8; pump++) {
            Check.due("17: t=1", x.forbids(pump, true), 2 * pump);
            x.unrule(2 * pump);
            Check.due("17: t=1, the other one", x.forbids(pump, true), 2 * pump + 1);
        }
    }

    /** Promise 16: "-1 (also one that is gone)". */
    private static void goneRules() {
        NearNothing x = plant(1);
        Check.due("16: none yet", x.unrule(0), -1);
        Check.rule(x, "P0:t=0");
        Check.rule(x, "P0:t=0");
        Check.due("16: -1", x.unrule(-1), -1);
        Check.due("16: 2", x.unrule(2), -1);
        Check.due("16: 32", x.unrule(32), -1);
        Check.due("16: gone", x.unrule(1), 1);
        Check.due("16: one that is gone", x.unrule(1), -1);
        Check.due("42: RULES (not gone)", x.count(6), 1);
        Check.due("16: the last", x.unrule(0), 1);
        Check.due("42: none", x.count(6), 0);
        Check.due("17: none FORBIDS", x.forbids(0, true), -9);
        Check.due("15: the next number", Check.rule(x, "P0:t=0"), 2);
        Check.due("17: by its number", x.forbids(0, true), 2);
    }

    /** TARGET: "V" and a digit, "P" and a digit, of what is there or not. */
    private static void targets() {
        NearNothing x = plant(8);
        for (int digit = 0; digit < 10; digit++) {
            boolean pump = digit % 2 == 0;
            Check.due("15: " + digit, Check.rule(x, (pump ? "P" : "V") + digit + ":t=0"), digit);
            if (pump && digit < 8) {
                Check.due("17: P" + digit, x.forbids(digit, true), digit);
                Check.due("17: no other", x.forbids(digit + 1, true), -9);
            }
        }
        Check.due("17: V0 is not P0", x.forbids(0, false), -9);
        Check.rule(x, "V0:t=0");
        Check.due("17: V0", x.forbids(0, false), 10);
        Check.due("17: P0 is not V0", x.forbids(0, true), 0);
    }

    private static void targetFaults() {
        fault("v0:t=0", 0);
        fault("W0:t=0", 0);
        fault("0:t=0", 0);
        fault("V:t=0", 1);
        fault("V/:t=0", 1);
        fault("P::t=0", 1);
        fault("P-1:t=0", 1);
        fault("P10:t=0", 2);
        fault("P0t=0", 2);
        fault("P0::t=0", 3);
    }

    private static void fault(String text, int place) {
        NearNothing x = new NearNothing();
        Check.feed(x, text);
        Check.due("15: FAULT of " + text, x.rule(), -20 - place);
        Check.due("15: no RULE of " + text, x.count(6), 0);
    }

    private static void right(String text) {
        NearNothing x = new NearNothing();
        Check.feed(x, text);
        Check.due("15: no FAULT in " + text, x.rule(), 0);
        Check.due("15: a RULE of " + text, x.count(6), 1);
    }

    /** Whether a RULE of this test FORBIDS the first PUMP. */
    private static void holds(NearNothing x, String test, boolean due) {
        int rule = Check.rule(x, "P0:" + test);
        Check.due("17: " + test, x.forbids(0, true), due ? rule : -9);
        x.unrule(rule);
    }

    /** FACT: r, w, v, p and a digit, t, of what is there. */
    private static void facts() {
        for (int k = 0; k < 10; k++) {
            NearNothing x = fullPlant();
            holds(x, "r" + k + "=" + (k < 5 ? (k + 1) * 100 / 3 : 0), true);
            holds(x, "w" + k + "=" + (k < 5 ? 9 - k : 0), true);
            holds(x, "v" + k + "=" + (k % 3 == 0 ? 1 : 0), true);
            holds(x, "p" + k + "=" + (k < 8 && k % 2 == 1 ? 1 : 0), true);
            holds(x, "t=0", true);
            x.ticks(200);
            holds(x, "t=200", true);
        }
    }

    private static NearNothing fullPlant() {
        NearNothing x = new NearNothing();
        for (int k = 0; k < 5; k++) {
            x.room(3, 0);
            x.warm(k, 9 - k);
            x.gas(k, k % 3, k + 1, false);
        }
        for (int k = 0; k < 12; k++) {
            x.pipe(0, 4, 1);
            x.valve(k, k % 3 == 0);
        }
        for (int k = 0; k < 8; k++) {
            x.pump(4, 0, 0, 0, 0);
            x.start(k, k % 2 == 1);
        }
        return x;
    }

    /** "(PUSH of that ROOM; 0 without)", "(its WARMTH; 0)", "(1 if that .., else 0)". */
    private static void factsWithout() {
        for (String without : new String[] {"r1", "r9", "w1", "w9", "v0", "v9", "p1", "p9"}) {
            NearNothing x = new NearNothing();
            x.room(1, 0);
            x.pump(0, 0, 0, 0, 0);
            holds(x, without + "=0", true);
            holds(x, without + "<1", true);
            holds(x, without + ">0", false);
            holds(x, without + "<0", false);
        }
    }

    /** "<", "=", ">" just below, at and just above. */
    private static void relations() {
        NearNothing x = new NearNothing();
        x.room(1, 0);
        x.pump(0, 0, 0, 0, 0);
        x.ticks(10);
        holds(x, "t<9", false);
        holds(x, "t<10", false);
        holds(x, "t<11", true);
        holds(x, "t=9", false);
        holds(x, "t=10", true);
        holds(x, "t=11", false);
        holds(x, "t>9", true);
        holds(x, "t>10", false);
        holds(x, "t>11", false);
    }

    /** A PUSH far above what a NUMBER of 5 digits can be. */
    private static void greatPushes() {
        NearNothing x = new NearNothing();
        x.room(1, 0);
        x.pump(0, 0, 0, 0, 0);
        x.gas(0, 0, 999, false);
        holds(x, "r0=99900", true);
        holds(x, "r0<99999", true);
        x.gas(0, 0, 1, false);
        holds(x, "r0>99999", true);
        x.gas(0, 1, 99999, false);
        holds(x, "r0>99999", true);
        holds(x, "r0<99999", false);
    }

    /** "a NUMBER (1 to 5 digits)". */
    private static void numbers() {
        right("P0:t=0");
        right("P0:t=12345");
        right("P0:t=00000");
        right("P0:t=99999");
        NearNothing x = plant(1);
        x.ticks(7);
        holds(x, "t=7", true);
        holds(x, "t=00007", true);
        holds(x, "t=70000", false);
        holds(x, "t<99999", true);
        holds(x, "t<00000", false);
        fault("P0:t=", 5);
        fault("P0:t=|t=1", 5);
        fault("P0:t=/", 5);
        fault("P0:t=:", 5);
        fault("P0:t=1/", 6);
        fault("P0:t=1:", 6);
    }

    private static void sixthDigit() {
        fault("P0:t=123456", 10);
        fault("P0:t=000000", 10);
        fault("P0:t=1234567", 10);
        fault("P0:(t=123456)", 11);
    }

    /** "\"!\", \"(\" 4 deep at most". */
    private static void fourDeep() {
        right("P0:!!!!t=1");
        right("P0:((((t=1))))");
        right("P0:!(!(t=1))");
        right("P0:(!(!t=1))");
        right("P0:((((t=1))))&((((t=1))))");
        right("P0:!!!!t=1|!!!!t=1");
        right("P0:(((!t=1)&!t=1)&!t=1)&!t=1");
        NearNothing x = plant(1);
        holds(x, "!!!!t=0", true);
        holds(x, "!!!t=0", false);
        holds(x, "((((t=0))))", true);
        holds(x, "!(!(t=0))", true);
        holds(x, "!(!(!t=0))&t=0", false);
    }

    /** "of a fifth \"!\" or \"(\" its own". */
    private static void fifthOne() {
        fault("P0:!!!!!t=1", 7);
        fault("P0:(((((t=1)))))", 7);
        fault("P0:((((!t=1))))", 7);
        fault("P0:!!!!(t=1)", 7);
        fault("P0:!(!(!t=1))", 7);
        fault("P0:(t=1&(t=1&(t=1&(t=1&(t=1)))))", 23);
        fault("P0:t=1&!!!!!t=1", 11);
        fault("P0:((((t=1))))|(((((", 19);
        fault("P0:!!!!!", 7);
        fault("P0:!!!!", 7);
    }

    /** "the end, if something lacks": behind the last byte. */
    private static void endOfTheText() {
        fault("P", 1);
        fault("P0", 2);
        fault("P0:", 3);
        fault("P0:r", 4);
        fault("P0:t", 4);
        fault("P0:r0", 5);
        fault("P0:r0<", 6);
        fault("P0:!", 4);
        fault("P0:(", 4);
        fault("P0:(t=1", 7);
        fault("P0:((t=1)", 9);
        fault("P0:t=1&", 7);
        fault("P0:t=1|", 7);
        fault("P0:t=1|(t=1", 11);
    }

    /** "the place of the first byte that can not stand". */
    private static void firstThatCanNotStand() {
        fault("P0:T=1", 3);
        fault("P0:)", 3);
        fault("P0:&t=1", 3);
        fault("P0:()", 4);
        fault("P0:!&", 4);
        fault("P0:r=1", 4);
        fault("P0:t1=1", 4);
        fault("P0:r12=1", 5);
        fault("P0:p0!1", 5);
        fault("P0:t<=1", 5);
        fault("P0:t=x", 5);
        fault("P0:t=1)", 6);
        fault("P0:t=1 ", 6);
        fault("P0:t=1!t=1", 6);
        fault("P0:t=1(t=1)", 6);
        fault("P0:t=1=1", 6);
        fault("P0:t=1&&t=1", 7);
        fault("P0:t=1|&t=1", 7);
        fault("P0:(t=1))", 8);
        fault("P0:(t=1)t=1", 8);
        fault("P0:t=1\nx", 6);
    }

    /** A TEXT of 40 bytes: right, at fault in the last byte, at fault at its end, 40. */
    private static void fullText() {
        right("P0:t=11111&t=11111&t=11111&t=11111&t=111");
        fault("P0:t=11111&t=11111&t=11111&t=11111&t=11x", 39);
        fault("P0:t=11111&t=11111&t=11111&t=11111&t=11&", 40);
        fault("P0:t=11111&t=11111&t=11111&t=11111&!t=1!", 39);
        fault("P0:t=1&t=1&t=1&t=1&t=1&t=1&t=1&t=1&t=1&t", 40);
        fault("P0:t=1|t=1|t=1|t=1|t=1|t=1|t=1|t=1|t=1&p", 40);
    }

    /** "-20 less its place (nothing is counted)". */
    private static void nothingIsCounted() {
        NearNothing x = new NearNothing();
        Check.rule(x, "P0:t=1x");
        x.rule();
        for (int what = 11; what <= 17; what++) {
            Check.due("15: nothing is counted " + what, x.count(what), 0);
        }
    }

    /** "it FORBIDS that while it holds". */
    private static void whileItHolds() {
        NearNothing x = plant(1);
        Check.rule(x, "P0:t>0&t<3");
        Check.rule(x, "V0:p0=1");
        Check.due("17: not yet", x.forbids(0, true), -9);
        x.ticks(1);
        Check.due("17: it holds", x.forbids(0, true), 0);
        x.ticks(1);
        Check.due("17: still", x.start(0, true), -7);
        x.ticks(1);
        Check.due("17: no more", x.start(0, true), 1);
        Check.due("17: the other one holds", x.valve(0, true), -7);
        x.start(0, false);
        Check.due("17: and no more", x.valve(0, true), 1);
    }

    /** A RULE by which other PUMPS are on, asked at starting and by forbids. */
    private static void whileOthersAreOn() {
        NearNothing x = plant(8);
        Check.rule(x, "P0:p5=0|p7=1");
        x.valve(0, true);
        Check.due("17: 5 is off", x.forbids(0, true), 0);
        Check.due("19: 5 is off", x.start(0, true), -7);
        x.start(5, true);
        Check.due("17: 5 is on", x.forbids(0, true), -9);
        Check.due("19: 5 is on", x.start(0, true), 1);
        x.start(0, false);
        x.start(7, true);
        Check.due("17: 7 is on", x.forbids(0, true), 0);
        Check.due("19: 7 is on", x.start(0, true), -7);
        x.start(7, false);
        Check.due("19: 7 is off", x.start(0, true), 1);
    }

    /** Promise 17: "The least RULE that FORBIDS .. now; -9 none. -1." */
    private static void leastRule() {
        NearNothing x = plant(1);
        Check.rule(x, "P0:t=1");
        Check.rule(x, "P0:t=0");
        Check.rule(x, "P0:t<2");
        Check.due("17: the least of those that hold", x.forbids(0, true), 1);
        x.unrule(1);
        Check.due("17: of those that are not gone", x.forbids(0, true), 2);
        x.ticks(1);
        Check.due("17: the least one", x.forbids(0, true), 0);
        x.ticks(1);
        Check.due("17: none", x.forbids(0, true), -9);
        Check.due("17: none of the VALVE", x.forbids(0, false), -9);
        Check.due("17: no second PUMP", x.forbids(1, true), -1);
        Check.due("17: no second PIPE", x.forbids(1, false), -1);
        Check.due("17: -1", x.forbids(-1, true), -1);
        Check.due("17: -1", x.forbids(-1, false), -1);
    }

    /** Promise 18: "0 it was so (RULES are not asked)". */
    private static void valveWasSo() {
        NearNothing x = plant(0);
        x.valve(0, true);
        Check.rule(x, "V0:t=0");
        Check.due("18: open, it was so", x.valve(0, true), 0);
        Check.due("18: shutting is not FORBIDDEN", x.valve(0, false), 1);
        Check.due("18: shut, it was so", x.valve(0, false), 0);
        Check.due("18: FORBIDDEN", x.valve(0, true), -7);
        Check.due("18: it is shut", x.count(3), 0);
        Check.due("42: two ACTS", x.count(7), 2);
        Check.due("42: REFUSALS -7", x.count(17), 1);
    }

    /** Promise 19: "0 it was so (nothing is asked)". */
    private static void pumpWasSo() {
        NearNothing x = plant(1);
        x.start(0, true);
        Check.rule(x, "P0:t=0");
        Check.due("19: on, it was so", x.start(0, true), 0);
        Check.due("19: stopping is not FORBIDDEN", x.start(0, false), 1);
        Check.due("19: off, it was so", x.start(0, false), 0);
        Check.due("19: FORBIDDEN", x.start(0, true), -7);
        Check.due("19: it is off", x.count(5), 0);
        Check.due("42: two ACTS", x.count(7), 2);
        Check.due("42: REFUSALS -7", x.count(17), 1);
    }

    /** Promise 20: "A TRAP is WARMED (and off): 1; 0 it was so". */
    private static void warmedWasSo() {
        NearNothing x = plant(0);
        x.pump(0, 1, 1, 1, 1);
        Check.rule(x, "P0:t=0");
        Check.due("20: WARMED, RULES are not for that", x.warmUp(0), 1);
        Check.due("20: it was so", x.warmUp(0), 0);
        Check.due("42: one ACT", x.count(7), 1);
    }

    /** Promise 19: "-3 WARMED (to start it); -7": -3 first, stopping it is 0. */
    private static void warmedIsNotStarted() {
        NearNothing x = plant(0);
        x.pump(0, 1, 1, 1, 1);
        x.warmUp(0);
        Check.due("19: WARMED", x.start(0, true), -3);
        Check.due("19: to stop it, it was so", x.start(0, false), 0);
        Check.rule(x, "P0:t=0");
        Check.due("19: WARMED and FORBIDDEN", x.start(0, true), -3);
        x.undo();
        Check.due("19: FORBIDDEN", x.start(0, true), -7);
        x.unrule(0);
        Check.due("19: neither", x.start(0, true), 1);
    }

    /** Promise 20: "-3 no TRAP", on or off. */
    private static void noTrap() {
        NearNothing x = plant(1);
        Check.due("20: no PUMP", x.warmUp(1), -1);
        Check.due("20: no TRAP", x.warmUp(0), -3);
        x.start(0, true);
        Check.due("20: no TRAP that is on", x.warmUp(0), -3);
        Check.due("20: it is on still", x.pumpOf(0, 0), 1);
        Check.due("42: REFUSALS -3", x.count(13), 2);
    }

    /** Promise 21: "-3 there is none". */
    private static void noActs() {
        NearNothing x = plant(1);
        Check.due("21: none yet", x.undo(), -3);
        x.start(0, false);
        x.valve(0, false);
        Check.due("21: none that changed something", x.undo(), -3);
        x.warmUp(0);
        x.start(1, true);
        Check.due("21: none that was not refused", x.undo(), -3);
        x.start(0, true);
        Check.due("21: one", x.undo(), 1);
        Check.due("21: none left", x.undo(), -3);
        Check.due("42: none left", x.count(7), 0);
    }

    /** Promise 22: "-3". */
    private static void noneUndone() {
        NearNothing x = plant(1);
        Check.due("22: none yet", x.redo(), -3);
        x.start(0, true);
        Check.due("22: none UNDONE", x.redo(), -3);
        x.undo();
        Check.due("22: one", x.redo(), 1);
        Check.due("22: none left", x.redo(), -3);
        Check.due("22: on", x.count(5), 1);
    }

    /** "the latest first (30 at most are kept": the 31st drops the first. */
    private static void thirtyActs() {
        for (int acts = 29; acts <= 32; acts++) {
            NearNothing x = plant(2);
            x.start(1, true);
            for (int k = 1; k < acts; k++) {
                x.start(0, k % 2 == 1);
            }
            Check.due("42: of " + acts, x.count(7), Math.min(30, acts));
            for (int k = 0; k < Math.min(30, acts); k++) {
                Check.due("21: of " + acts, x.undo(), 1);
            }
            Check.due("21: no more of " + acts, x.undo(), -3);
            Check.due("21: the first of " + acts, x.pumpOf(1, 0), acts > 30 ? 1 : 0);
            Check.due("21: the one that is kept of " + acts, x.pumpOf(0, 0), acts == 32 ? 1 : 0);
            for (int k = 0; k < Math.min(30, acts); k++) {
                Check.due("22: of " + acts, x.redo(), 1);
            }
            Check.due("22: no more of " + acts, x.redo(), -3);
            Check.due("22: all of " + acts, x.pumpOf(1, 0), 1);
            Check.due("22: the latest of " + acts, x.pumpOf(0, 0), acts % 2 == 0 ? 1 : 0);
        }
    }

    /** 31 ACTS of all kinds at twelve PIPES and eight TRAPS, UNDONE one by one but for the first. */
    private static void thirtyOfAllKinds() {
        NearNothing x = new NearNothing();
        x.room(1, 0);
        x.room(1, 0);
        for (int k = 0; k < 12; k++) {
            x.pipe(0, 1, 1);
            x.pump(0, 1, 1, 1, 1);
        }
        for (int k = 0; k < 12; k++) {
            Check.due("18: opened", x.valve(k, true), 1);
            if (k < 8) {
                Check.due("19: started", x.start(k, true), 1);
            }
        }
        for (int k = 0; k < 6; k++) {
            Check.due("20: WARMED", x.warmUp(k), 1);
        }
        x.valve(11, false);
        x.valve(10, false);
        x.start(6, false);
        x.warmUp(7);
        x.valve(9, false);
        Check.due("42: 30 of 31", x.count(7), 30);
        x.undo();
        Check.due("21: opened", x.valve(9, true), 0);
        x.undo();
        Check.due("21: not WARMED, on, but 6 is off", x.pumpOf(7, 4) * 100 + x.pumpOf(7, 0) * 10 + x.pumpOf(6, 0), 10);
        x.undo();
        Check.due("21: 6 is on", x.pumpOf(6, 0) * 10 + x.pumpOf(7, 0), 11);
        x.undo();
        Check.due("21: opened", x.valve(10, true), 0);
        x.undo();
        Check.due("21: opened", x.valve(11, true), 0);
        for (int k = 5; k >= 0; k--) {
            x.undo();
            Check.due("21: not WARMED " + k, x.pumpOf(k, 4), 0);
            Check.due("21: on " + k, x.pumpOf(k, 0), 1);
        }
        for (int k = 11; k >= 0; k--) {
            if (k < 8) {
                x.undo();
                Check.due("21: off " + k, x.pumpOf(k, 0), 0);
            }
            Check.due("21: shut, but for the first " + k, x.undo(), k == 0 ? -3 : 1);
            Check.due("21: it was so " + k, x.valve(k, k == 0), 0);
        }
    }

    /** "a TICK, or a telling of I, forgets them": what may be UNDONE and what may be DONE AGAIN. */
    private static void forgetting() {
        for (int way = 0; way < 8; way++) {
            NearNothing x = plant(1);
            x.start(0, true);
            x.valve(0, true);
            x.undo();
            Check.due("VI: telling " + way, tell(x, way) >= 0 ? 1 : 0, 1);
            Check.due("VI: forgotten by telling " + way, x.count(7), 0);
            Check.due("21: forgotten by telling " + way, x.undo(), -3);
            Check.due("22: forgotten by telling " + way, x.redo(), -3);
            Check.due("VI: all is as it was " + way, x.count(5) * 10 + x.count(3), 10);
        }
    }

    private static int tell(NearNothing x, int way) {
        switch (way) {
            case 0: return x.ticks(1);
            case 1: return x.room(1, 0);
            case 2: return x.warm(0, 4);
            case 3: return x.gas(0, 0, 1, false);
            case 4: return x.gives(0, 0, 1);
            case 5: return x.pipe(0, 1, 1);
            case 6: return x.pump(0, 1, 1, 1, 0);
            default: return x.leak(0, 0, 1);
        }
    }

    /** A refused telling ("nothing changes"), asking, and the tellings of II to V forget nothing. */
    private static void refusedTellings() {
        NearNothing x = plant(1);
        x.start(0, true);
        x.valve(0, true);
        x.undo();
        x.ticks(0);
        x.ticks(201);
        x.room(0, 0);
        x.room(1, 4);
        x.warm(0, 10);
        x.gas(0, 0, 0, false);
        x.gives(0, 0, 501);
        x.pipe(0, 0, 1);
        x.pump(0, 10, 1, 1, 0);
        x.leak(0, 0, 1000);
        x.when(0, 1, 300);
        x.order(0, 0);
        x.in(0, 0, 2);
        Check.rule(x, "P0:t=0");
        x.unrule(0);
        x.square(0, 0, true);
        x.sees(0, 0, 0);
        x.reading(0, 0);
        x.stage(0, 1, 1, 1, 1);
        x.late(0, 0);
        x.spray(0, 0);
        x.seen(0, true);
        x.anew();
        x.offer(0, 1, 1);
        Check.due("42: one ACT still", x.count(7), 1);
        Check.due("22: DONE AGAIN", x.redo(), 1);
        Check.due("21: UNDONE", x.undo(), 1);
        Check.due("21: UNDONE", x.undo(), 1);
        Check.due("21: all", x.count(5) + x.count(3), 0);
    }

    private static void doneAgain() {
        NearNothing x = plant(2);
        x.start(0, true);
        x.start(1, true);
        x.start(0, false);
        x.undo();
        x.undo();
        x.undo();
        Check.due("22: the first first", x.redo(), 1);
        Check.due("22: it is on", x.pumpOf(0, 0), 1);
        Check.due("42: one that may be UNDONE", x.count(7), 1);
        Check.due("22: the next", x.redo(), 1);
        Check.due("22: it is on", x.pumpOf(1, 0), 1);
        Check.due("22: the last", x.redo(), 1);
        Check.due("22: it is off", x.pumpOf(0, 0), 0);
        Check.due("42: three that may be UNDONE", x.count(7), 3);
        Check.due("22: no more", x.redo(), -3);
    }

    /** "DONE AGAIN, as long as no other ACT came": one that was refused did not come. */
    private static void otherActs() {
        NearNothing x = plant(2);
        x.start(0, true);
        x.undo();
        x.start(2, true);
        x.valve(1, true);
        x.warmUp(0);
        Check.due("22: refused ones change nothing", x.redo(), 1);
        x.undo();
        x.valve(0, true);
        Check.due("22: another ACT came", x.redo(), -3);
        Check.due("42: that one alone", x.count(7), 1);
        Check.due("21: that one", x.undo(), 1);
        Check.due("21: it is shut", x.count(3), 0);
        Check.due("22: that one again", x.redo(), 1);
        Check.due("22: it is open", x.count(3), 1);
        x.undo();
        x.start(1, true);
        Check.due("22: another PUMP came", x.redo(), -3);
    }

    /** "(RULES are not asked then)". */
    private static void rulesAreNotAsked() {
        NearNothing x = plant(1);
        x.start(0, true);
        x.valve(0, true);
        x.valve(0, false);
        Check.rule(x, "P0:t=0");
        Check.rule(x, "V0:t=0");
        Check.due("21: opens", x.undo(), 1);
        Check.due("21: open", x.count(3), 1);
        x.undo();
        x.undo();
        Check.due("22: starts", x.redo(), 1);
        Check.due("22: on", x.count(5), 1);
        Check.due("22: opens", x.redo(), 1);
        Check.due("22: open", x.count(3), 1);
        Check.due("42: none was refused", x.count(17), 0);
    }

    /** A WARMING that is UNDONE: on as before, or off as before. */
    private static void undoneWarming() {
        for (int on = 0; on < 2; on++) {
            NearNothing x = plant(0);
            x.pump(0, 9, 9, 9, 50);
            x.pump(0, 9, 9, 9, 50);
            x.start(1, true);
            x.start(0, on == 1);
            x.warmUp(0);
            x.undo();
            Check.due("21: on as before", x.pumpOf(0, 0), on);
            Check.due("21: not WARMED", x.pumpOf(0, 4), 0);
            Check.due("21: the other one", x.pumpOf(1, 0), 1);
            x.redo();
            Check.due("22: off", x.pumpOf(0, 0), 0);
            Check.due("22: WARMED", x.pumpOf(0, 4), 1);
            Check.due("22: the other one", x.pumpOf(1, 0), 1);
        }
    }

    /** "a set of PUMPS that are off now (6 at most)", promise 23 "-6 more than 6". */
    private static void sixPumps() {
        NearNothing x = plant(8);
        Check.due("23: six", x.order(0b00111111, 5), 5);
        Check.due("23: six others", x.order(0b11111100, 5), 7);
        Check.due("23: seven", x.order(0b01111111, 0), -6);
        Check.due("23: eight", x.order(0b11111111, 0), -6);
        Check.due("23: seven, i below", x.order(0b01111111, -1), -4);
        x.start(0, true);
        Check.due("23: seven with one that is on", x.order(0b01111111, 0), -1);
        Check.due("23: seven that are off", x.order(0b11111110, 0), -6);
    }

    /** "-1 a set (bits; below 0, too) with others, or ones that are on". */
    private static void sets() {
        NearNothing none = new NearNothing();
        Check.due("23: no PUMP", none.order(1, 0), -1);
        Check.due("23: none of no PUMP", none.order(0, 0), -9);
        for (int pumps = 1; pumps <= 8; pumps++) {
            NearNothing x = plant(pumps);
            Check.due("23: the last", x.order(1 << pumps - 1, 0), pumps - 1);
            Check.due("23: behind the last", x.order(1 << pumps, 0), -1);
            Check.due("23: and with the last", x.order(3 << pumps - 1, 0), -1);
            Check.due("23: below 0", x.order(-1, 0), -1);
            Check.due("23: the least", x.order(Integer.MIN_VALUE, 0), -1);
            Check.due("23: the least and the first", x.order(Integer.MIN_VALUE + 1, 0), -1);
            x.start(pumps - 1, true);
            Check.due("23: on", x.order(1 << pumps - 1, 0), -1);
        }
    }

    /** "-9 none, or no i-th. .. -4 i below 0". */
    private static void noIth() {
        NearNothing x = plant(3);
        Check.due("23: the 0th", x.order(0b101, 0), 0);
        Check.due("23: the 1st", x.order(0b101, 1), 2);
        Check.due("23: no 2nd", x.order(0b101, 2), -9);
        Check.due("23: no 7th", x.order(0b101, 7), -9);
        Check.due("23: no 8th", x.order(0b101, 8), -9);
        Check.due("23: none so great", x.order(0b101, Integer.MAX_VALUE), -9);
        Check.due("23: of no PUMP no 0th", x.order(0, 0), -9);
        Check.due("23: -1", x.order(0b101, -1), -4);
        Check.due("23: -1 of no PUMP", x.order(0, -1), -4);
        Check.due("42: REFUSALS -4", x.count(14), 2);
        Check.due("42: no other REFUSALS", x.count(11) + x.count(16), 0);
    }

    /** "the first by numbers; -9 none". */
    private static void firstByNumbers() {
        NearNothing x = plant(6);
        Check.rule(x, "P0:p5=0");
        Check.rule(x, "P1:p0=0");
        Check.rule(x, "P5:p2=1");
        int[] due = {3, 4, 5, 0, 1, 2};
        for (int i = 0; i < 6; i++) {
            Check.due("23: the " + i + ".", x.order(0b111111, i), due[i]);
        }
        Check.rule(x, "P4:p2=0");
        int[] then = {3, 5, 0, 1, 2, 4};
        for (int i = 0; i < 6; i++) {
            Check.due("23: then the " + i + ".", x.order(0b111111, i), then[i]);
        }
        Check.rule(x, "P3:p4=0");
        Check.rule(x, "P4:p3=0");
        for (int i = 0; i < 6; i++) {
            Check.due("23: none at all, " + i, x.order(0b111111, i), -9);
        }
        Check.due("23: without these", x.order(0b100111, 0), 5);
        Check.due("23: one that waits for another", x.order(0b000001, 0), -9);
    }

    /** "(WARMED ones are FORBIDDEN, too.)": not refused, but none. */
    private static void warmedOnes() {
        NearNothing x = plant(1);
        x.pump(0, 1, 1, 1, 5);
        x.pump(0, 1, 1, 1, 5);
        x.warmUp(2);
        Check.due("23: WARMED", x.order(0b100, 0), -9);
        Check.due("23: with a WARMED one", x.order(0b101, 0), -9);
        Check.due("23: a TRAP that is not", x.order(0b011, 1), 1);
        Check.due("42: none was refused", x.count(11) + x.count(13) + x.count(17), 0);
        x.undo();
        Check.due("23: WARMED no more", x.order(0b100, 0), 2);
        for (int k = 3; k < 8; k++) {
            x.pump(0, 1, 1, 1, 5);
            x.warmUp(k);
            Check.due("23: without the WARMED one", x.order(0b111, 2), 2);
            Check.due("23: with it", x.order(0b111 | 1 << k, 0), -9);
        }
    }

    /** "as things are now (only which are on changes)", and nothing is started by asking. */
    private static void onlyWhichAreOn() {
        NearNothing x = plant(3);
        x.start(2, true);
        Check.rule(x, "P0:t<1&p1=0");
        Check.rule(x, "P1:p2=0|r0>0|v0=1");
        Check.due("23: first", x.order(0b011, 0), 1);
        Check.due("23: second", x.order(0b011, 1), 0);
        Check.due("23: none is started", x.count(5), 1);
        Check.due("23: TICK is what it was", x.count(0), 0);
        x.valve(0, true);
        Check.due("23: FORBIDDEN by what is now", x.order(0b011, 0), -9);
        x.valve(0, false);
        x.ticks(1);
        Check.due("23: by numbers at TICK 1", x.order(0b011, 0), 0);
        x.gas(0, 0, 1, false);
        Check.due("23: FORBIDDEN by PUSH", x.order(0b010, 0), -9);
        NearNothing y = plant(8);
        Check.rule(y, "P0:p1=0|p7=0");
        Check.rule(y, "P1:p7=0");
        y.start(7, true);
        Check.due("23: with 7 on, first 1", y.order(0b011, 0), 1);
        Check.due("23: with 7 on still, then 0", y.order(0b011, 1), 0);
    }
}
