/** The sentences of 'Terms' on keeping, stopping and its bits, and what answers without power. */
public final class StoppingTest {
    private static final int BAD = -1, OFF = -2;
    private static final long ALL_DOWN = 0x5555555555555555L;

    public static void main(String[] args) {
        Cases.runAll(StoppingTest.class);
    }

    /** Kept are pieces 0 to 9 of volumes 0 and 1; 41 pieces and all else are new since. */
    private static Run changed(Run x, int keeps) {
        x.withFirstPieces(0, 10);
        x.snap(1, 0).is(10);
        x.tell(31, 1).is(0);
        for (int i = 0; i < keeps; i++) {
            x.keep(0, 0).is(20);
        }
        x.write(0, 0, 0, 128, 200).is(10);
        x.trim(0, 9, 9).is(1);
        x.remove(1).is(10);
        x.make(2).is(0);
        for (int p = 40; p < 80; p++) {
            x.write(2, p, 0, 128, p);
        }
        x.tell(31, 2).is(1);
        x.pieces(-1).is(49);
        return x;
    }

    private static void dueOld(Run x, int keeps) {
        x.mount().is(20);
        x.check().is(0);
        x.count(0).is(2);
        x.count(1).is(keeps);
        x.told(31).is(1);
        x.pieces(2).is(BAD);
        for (int v = 0; v < 2; v++) {
            x.pieces(v).is(10);
            for (int p = 0; p < 10; p++) {
                x.read(v, p, 0).is(p + 1);
                x.read(v, p, 127).is(p + 1);
                x.shared(v, p).is(1);
            }
        }
    }

    private static void dueNew(Run x, int keeps) {
        x.mount().is(49);
        x.check().is(0);
        x.count(0).is(2);
        x.count(1).is(keeps + 1);
        x.told(31).is(2);
        x.pieces(1).is(BAD);
        x.pieces(0).is(9);
        x.read(0, 0, 0).is(200);
        x.read(0, 0, 127).is(200);
        x.read(0, 9, 0).is(0);
        for (int p = 40; p < 80; p++) {
            x.read(2, p, 0).is(p);
            x.read(2, p, 63).is(p);
            x.read(2, p, 64).is(p);
            x.read(2, p, 127).is(p);
        }
    }

    @Says("0 to go through")
    private static void stop0GoesThrough(Run x) {
        changed(x, 1).keep(0, 0).is(49);
        x.fail().is(0);
        dueNew(x, 1);
    }

    @Says("or the stage in which power fails")
    private static void stop1And2LosePower(Run x) {
        for (int stop = 1; stop <= 2; stop++) {
            Run y = x.another("stage " + stop);
            y.keep(stop, -1).is(OFF);
            y.count(0).is(OFF);
            y.mount().is(0);
            y.count(1).is(0);
        }
    }

    @Says("what this stage writes is UNDER WAY, in order, and it answers OFF.")
    private static void stoppedAnswersOff(Run x) {
        for (int stop = 1; stop <= 2; stop++) {
            for (int bits = 0; bits < 4; bits++) {
                changed(x.another("stage " + stop + ", bits " + bits), 1).keep(stop, bits).is(OFF);
            }
        }
    }

    @Says("0 nothing")
    private static void stage1NothingDown(Run x) {
        stopStage1(x, 0);
    }

    @Says("1 all")
    private static void stage1AllDown(Run x) {
        stopStage1(x, ALL_DOWN);
    }

    @Says("2 the first 64 bytes")
    private static void stage1FirstHalvesDown(Run x) {
        stopStage1(x, ALL_DOWN << 1);
    }

    @Says("3 the last 64 bytes")
    private static void stage1LastHalvesDown(Run x) {
        stopStage1(x, -1);
    }

    @Says("Bits tell of each block under way, two for each, the lowest ones first")
    private static void stage1OneBlockAlone(Run x) {
        for (int place = 0; place < 32; place++) {
            for (long part = 1; part < 4; part++) {
                Run y = x.another("block " + place + ", part " + part);
                changed(y, 1).keep(1, part << 2 * place).is(OFF);
                dueOld(y, 1);
            }
        }
    }

    @Says("Bits tell of each block under way, two for each, the lowest ones first")
    private static void stage1AllButOneBlock(Run x) {
        for (int place = 0; place < 32; place++) {
            Run y = x.another("all but block " + place);
            changed(y, 2).keep(1, ALL_DOWN & ~(3L << 2 * place)).is(OFF);
            dueOld(y, 2);
        }
    }

    /** So few blocks are under way that the bits can tell of all of them: still the old ones. */
    @Says("1 all blocks that were taken or changed since, and the other head's tables, are written")
    private static void stage1OfOneNoteAllDown(Run x) {
        for (int keeps = 0; keeps < 3; keeps++) {
            Run y = x.another(keeps + " times kept");
            for (int i = 0; i < keeps; i++) {
                y.tell(0, 7);
                y.keep(0, 0).is(0);
            }
            y.tell(0, 9).is(keeps == 0 ? 0 : 7);
            y.keep(1, ALL_DOWN).is(OFF);
            y.mount().is(0);
            y.told(0).is(keeps == 0 ? 0 : 7);
            y.count(1).is(keeps);
            y.check().is(0);
        }
    }

    @Says("(0 behind the 32nd)")
    private static void stage1BlocksBehindThe32nd(Run x) {
        for (long bits : new long[] {Long.MIN_VALUE, 1L << 62, 3L << 62, Long.MAX_VALUE, -1, ALL_DOWN}) {
            Run y = x.another("bits " + bits);
            changed(y, 1).keep(1, bits).is(OFF);
            dueOld(y, 1);
        }
    }

    private static void stopStage1(Run x, long bits) {
        for (int keeps = 1; keeps <= 3; keeps++) {
            Run y = x.another(keeps + " times kept");
            changed(y, keeps).keep(1, bits).is(OFF);
            dueOld(y, keeps);
            y.write(0, 50, 0, 128, 51).is(11);
            y.keep(0, 0).is(21);
            y.again(21);
            y.read(0, 50, 127).is(51);
            y.read(0, 9, 127).is(10);
        }
    }

    @Says("0 nothing")
    private static void headNotDown(Run x) {
        stopStage2(x, 0, false);
    }

    @Says("1 all")
    private static void headAllDown(Run x) {
        stopStage2(x, 1, true);
    }

    @Says("it counts, if its first 64 bytes are down: then what is now is kept.")
    private static void headFirstHalfDown(Run x) {
        stopStage2(x, 2, true);
    }

    @Says("3 the last 64 bytes")
    private static void headLastHalfDown(Run x) {
        stopStage2(x, 3, false);
    }

    /** Both heads in turn, with any bits above the head's own two. */
    private static void stopStage2(Run x, long head, boolean counts) {
        for (long above : new long[] {0, 4, 8, 12, ALL_DOWN & ~3L, -4, Long.MIN_VALUE}) {
            for (int keeps = 1; keeps <= 3; keeps++) {
                Run y = x.another(keeps + " times kept, bits above " + above);
                changed(y, keeps).keep(2, head | above).is(OFF);
                if (counts) {
                    dueNew(y, keeps);
                } else {
                    dueOld(y, keeps);
                }
            }
        }
    }

    @Says("The head is the only one of its stage")
    private static void bitsBehindTheHeadsOwn(Run x) {
        for (int place = 1; place < 32; place++) {
            for (long part = 1; part < 4; part++) {
                Run y = x.another("block " + place + ", part " + part);
                y.withPieces(0, 1);
                y.keep(2, part << 2 * place).is(OFF);
                y.mount().is(0);
                y.count(1).is(0);
                y.withPieces(0, 1);
                y.keep(2, 1 | part << 2 * place).is(OFF);
                y.mount().is(1);
                y.count(1).is(1);
            }
        }
    }

    @Says("it counts, if its first 64 bytes are down: then what is now is kept.")
    private static void headsInTurn(Run x) {
        x.make(0);
        int kept = 0;
        for (int i = 0; i < 64; i++) {
            int head = i * 7 % 4;
            x.write(0, i, 0, 128, i + 1).is(kept + 1);
            x.keep(2, head).is(OFF);
            kept += head == 1 || head == 2 ? 1 : 0;
            x.mount().is(kept);
            if (kept == 0) {
                x.make(0).is(0);
            }
            x.count(1).is(kept);
            x.next(0, i).is(head == 1 || head == 2 ? i : 128);
        }
    }

    @Says("Each is down before the next one begins.")
    private static void stage1IsDownBehindAHead(Run x) {
        x.full();
        x.keep(2, 2).is(OFF);
        x.mount().is(300);
        for (int p = 0; p < 100; p++) {
            x.read(p % 3, p, 63).is(p + 1);
            x.read(p % 3, p, 64).is(p + 1);
        }
        x.check().is(0);
    }

    @Says("Each is down before the next one begins.")
    private static void stoppedTwiceInARow(Run x) {
        for (long first = 0; first < 4; first++) {
            for (long second = 0; second < 4; second++) {
                Run y = x.another("bits " + first + ", then " + second);
                y.withPieces(0, 1, 2, 3);
                y.keep(0, 0).is(3);
                y.write(0, 1, 0, 128, 100).is(3);
                y.keep(1, ALL_DOWN * first).is(OFF);
                y.mount().is(3);
                y.read(0, 1, 64).is(2);
                y.write(0, 2, 0, 128, 101).is(3);
                y.keep(2, second).is(OFF);
                y.mount().is(3);
                y.read(0, 1, 0).is(2);
                y.read(0, 2, 64).is(second == 1 || second == 2 ? 101 : 3);
                y.check().is(0);
            }
        }
    }

    @Says("While power is off only lay(), mount() answer; all others are OFF (before BAD).")
    private static void offByFailing(Run x) {
        x.withPieces(0, 0);
        x.tell(0, 5).is(0);
        x.keep(0, 0).is(1);
        x.fail().is(0);
        dueOff(x);
        x.mount().is(1);
        x.told(0).is(5);
    }

    @Says("While power is off only lay(), mount() answer; all others are OFF (before BAD).")
    private static void offByStage1(Run x) {
        x.withPieces(0, 0);
        x.keep(1, -1).is(OFF);
        dueOff(x);
        x.mount().is(0);
    }

    @Says("While power is off only lay(), mount() answer; all others are OFF (before BAD).")
    private static void offByStage2(Run x) {
        for (int bits = 0; bits < 4; bits++) {
            Run y = x.another("bits " + bits);
            y.withPieces(0, 0);
            y.keep(2, bits).is(OFF);
            dueOff(y);
            y.mount().is(bits == 1 || bits == 2 ? 1 : 0);
        }
    }

    @Says("While power is off only lay(), mount() answer; all others are OFF (before BAD).")
    private static void offWithAFullPool(Run x) {
        x.full();
        x.keep(0, 0).is(300);
        x.fail().is(0);
        x.snap(3, 0).is(OFF);
        x.write(0, 100, 0, 1, 1).is(OFF);
        dueOff(x);
        x.mount().is(300);
    }

    @Says("While power is off only lay(), mount() answer; all others are OFF (before BAD).")
    private static void layAnswersWithoutPower(Run x) {
        x.withPieces(0, 0);
        x.keep(0, 0).is(1);
        x.fail().is(0);
        dueOff(x);
        x.lay().is(0);
        x.mount().is(BAD);
        x.pieces(-1).is(0);
        x.count(1).is(0);
    }

    /** Right and wrong numbers: no call without power may tell them apart, or change a thing. */
    private static void dueOff(Run x) {
        for (int i : new int[] {0, 1, -1, 128, Integer.MIN_VALUE, Integer.MAX_VALUE}) {
            x.make(i).is(OFF);
            x.snap(i, 0).is(OFF);
            x.snap(1, i).is(OFF);
            x.remove(i).is(OFF);
            x.write(i, 0, 0, 1, 1).is(OFF);
            x.write(0, i, i, i, i).is(OFF);
            x.read(i, 0, 0).is(OFF);
            x.read(0, i, i).is(OFF);
            x.trim(i, 0, 127).is(OFF);
            x.trim(0, i, i).is(OFF);
            x.pieces(i).is(OFF);
            x.next(i, 0).is(OFF);
            x.next(0, i).is(OFF);
            x.shared(i, 0).is(OFF);
            x.shared(0, i).is(OFF);
            x.tell(i, 0).is(OFF);
            x.tell(0, i).is(OFF);
            x.told(i).is(OFF);
            x.keep(i, 0).is(OFF);
            x.keep(i, 1).is(OFF);
            x.count(i).is(OFF);
        }
        x.keep(2, 1).is(OFF);
        x.keep(3, 0).is(OFF);
        x.fail().is(OFF);
        x.check().is(OFF);
    }
}
