/** Promises 12 to 18: notes, keep, fail, mount, count and check, each boundary case by itself. */
public final class PowerTest {
    private static final int BAD = -1, OFF = -2;
    private static final int MIN = Integer.MIN_VALUE, MAX = Integer.MAX_VALUE;

    public static void main(String[] args) {
        Cases.runAll(PowerTest.class);
    }

    @Says("A note (0 .. 31, at first 0, kept with all else) becomes v (0 .. 255): what it was.")
    private static void tellFirstAndLastNote(Run x) {
        x.tell(0, 1).is(0);
        x.tell(31, 2).is(0);
        x.tell(0, 3).is(1);
        x.tell(31, 4).is(2);
        x.told(0).is(3);
        x.told(31).is(4);
        x.told(1).is(0);
        x.told(30).is(0);
    }

    @Says("A note (0 .. 31, at first 0, kept with all else) becomes v (0 .. 255): what it was.")
    private static void tellLeastAndGreatestValue(Run x) {
        x.tell(7, 255).is(0);
        x.tell(7, 0).is(255);
        x.tell(7, 128).is(0);
        x.tell(7, 127).is(128);
        x.told(7).is(127);
    }

    @Says("at first 0")
    private static void tellAtFirst0(Run x) {
        for (int i = 0; i < 32; i++) {
            x.tell(i, i + 1).is(0);
        }
        x.lay().is(0);
        for (int i = 0; i < 32; i++) {
            x.tell(i, i + 1).is(0);
        }
    }

    @Says("kept with all else")
    private static void tellIsKept(Run x) {
        for (int i = 0; i < 32; i++) {
            x.tell(i, 255 - i).is(0);
        }
        x.keep(0, 0).is(0);
        for (int i = 0; i < 32; i++) {
            x.tell(i, i).is(255 - i);
        }
        x.again(0);
        for (int i = 0; i < 32; i++) {
            x.told(i).is(255 - i);
        }
    }

    @Says("kept with all else")
    private static void tellIsNotKeptByItself(Run x) {
        x.tell(0, 1).is(0);
        x.tell(31, 1).is(0);
        x.again(0);
        x.told(0).is(0);
        x.told(31).is(0);
    }

    @Says("becomes v (0 .. 255): what it was. BAD.")
    private static void tellNoSuchNote(Run x) {
        for (int i : new int[] {-1, 32, 33, -32, 256, MIN, MAX}) {
            x.tell(i, 0).is(BAD);
            x.tell(i, 255).is(BAD);
            x.tell(i, 256).is(BAD);
        }
        for (int i = 0; i < 32; i++) {
            x.told(i).is(0);
        }
        x.count(0).is(0);
    }

    @Says("becomes v (0 .. 255): what it was. BAD.")
    private static void tellNoSuchValue(Run x) {
        x.tell(0, 9).is(0);
        x.tell(31, 9).is(0);
        for (int v : new int[] {-1, 256, -128, 512, 65536, MIN, MAX}) {
            x.tell(0, v).is(BAD);
            x.tell(31, v).is(BAD);
        }
        x.told(0).is(9);
        x.told(31).is(9);
    }

    @Says("A note. BAD: there is none.")
    private static void toldFirstAndLastNote(Run x) {
        x.told(0).is(0);
        x.told(31).is(0);
        x.tell(0, 255).is(0);
        x.tell(31, 254).is(0);
        x.told(0).is(255);
        x.told(31).is(254);
        x.told(0).is(255);
    }

    @Says("A note. BAD: there is none.")
    private static void toldNoSuchNote(Run x) {
        for (int i : new int[] {-1, 32, 33, -32, 256, MIN, MAX}) {
            x.told(i).is(BAD);
        }
    }

    @Says("A note (0 .. 31, at first 0, kept with all else)")
    private static void notesAndVolumesAreApart(Run x) {
        x.withVolumes(0, 16);
        for (int i = 0; i < 32; i++) {
            x.tell(i, 255).is(0);
        }
        x.count(0).is(16);
        x.remove(15).is(0);
        x.told(0).is(255);
        x.told(31).is(255);
        x.pieces(14).is(0);
    }

    @Says("A note (0 .. 31, at first 0, kept with all else)")
    private static void notesOfAnyValueAreNoVolume(Run x) {
        x.withPieces(0, 5);
        for (int v = 0; v < 160; v++) {
            x.tell(0, v).is(Math.max(0, v - 1));
            x.pieces(-1).is(1);
            x.shared(0, 5).is(0);
        }
        x.count(0).is(1);
    }

    @Says("What is now is kept: how many pieces all volumes have.")
    private static void keepNothing(Run x) {
        x.keep(0, 0).is(0);
        x.count(1).is(1);
        x.again(0);
        x.count(1).is(1);
    }

    @Says("What is now is kept: how many pieces all volumes have.")
    private static void keepAll300(Run x) {
        x.full();
        x.withVolumes(3, 13);
        x.keep(0, 0).is(300);
        x.again(300);
        x.count(0).is(16);
        x.keep(0, 0).is(300);
        x.check().is(0);
    }

    @Says("What is now is kept: how many pieces all volumes have.")
    private static void keepEmptyAgain(Run x) {
        x.withPieces(0, 1);
        x.keep(0, 0).is(1);
        x.remove(0).is(1);
        x.keep(0, 0).is(0);
        x.again(0);
        x.count(0).is(0);
    }

    @Says("What is now is kept: how many pieces all volumes have.")
    private static void keepLeavesWhatIsNow(Run x) {
        x.withPieces(0, 1, 2);
        x.snap(1, 0).is(2);
        x.tell(4, 5).is(0);
        x.keep(0, 0).is(4);
        x.read(0, 1, 0).is(2);
        x.shared(1, 2).is(1);
        x.told(4).is(5);
        x.mount().is(BAD);
    }

    @Says("What is now is kept: how many pieces all volumes have.")
    private static void keepManyTimes(Run x) {
        x.make(0).is(0);
        for (int i = 0; i < 80; i++) {
            x.write(0, i, 0, 128, i).is(i + 1);
            x.keep(0, i).is(i + 1);
            x.again(i + 1);
            x.read(0, i, 127).is(i);
            x.count(1).is(i + 1);
        }
    }

    @Says("BAD: stop is not 0 .. 2.")
    private static void keepNoSuchStop(Run x) {
        x.withPieces(0, 1);
        for (int stop : new int[] {-1, 3, 4, -2, 256, MIN, MAX}) {
            x.keep(stop, 0).is(BAD);
            x.keep(stop, 1).is(BAD);
        }
        x.count(1).is(0);
        x.pieces(0).is(1);
        x.again(0);
        x.count(0).is(0);
        x.count(1).is(0);
    }

    @Says("BAD: stop is not 0 .. 2.")
    private static void keepFirstAndLastStop(Run x) {
        x.withPieces(0, 1);
        x.keep(0, 0).is(1);
        x.keep(2, 0).is(OFF);
        x.mount().is(1);
        x.keep(1, 0).is(OFF);
        x.mount().is(1);
    }

    @Says("(With stop 0 bits do not count.)")
    private static void keepWithAnyBits(Run x) {
        for (long bits : new long[] {0, 1, 2, 3, -1, Long.MIN_VALUE, Long.MAX_VALUE, 0xAAAAAAAAAAAAAAAAL}) {
            Run y = x.another("bits " + bits);
            y.withFirstPieces(0, 40);
            y.tell(0, 1).is(0);
            y.keep(0, bits).is(40);
            y.count(1).is(1);
            y.again(40);
            y.told(0).is(1);
            y.read(0, 39, 0).is(40);
            y.read(0, 39, 127).is(40);
        }
    }

    @Says("Power fails, with nothing under way: 0.")
    private static void failOfANewObject(Run x) {
        x.fail().is(0);
        x.count(0).is(OFF);
        x.mount().is(0);
    }

    @Says("Power fails, with nothing under way: 0.")
    private static void failLosesWhatWasNotKept(Run x) {
        x.withPieces(0, 1);
        x.keep(0, 0).is(1);
        x.write(0, 1, 0, 64, 99).is(1);
        x.write(0, 2, 0, 1, 1).is(2);
        x.make(1).is(0);
        x.tell(0, 1).is(0);
        x.fail().is(0);
        x.mount().is(1);
        x.read(0, 1, 0).is(2);
        x.next(0, 2).is(128);
        x.pieces(1).is(BAD);
        x.told(0).is(0);
        x.count(1).is(1);
    }

    @Says("Power fails, with nothing under way: 0.")
    private static void failTwice(Run x) {
        x.fail().is(0);
        x.fail().is(OFF);
        x.mount().is(0);
        x.fail().is(0);
        x.mount().is(0);
    }

    @Says("Power is on; what is kept is now: how many pieces all volumes have.")
    private static void mountNothing(Run x) {
        x.fail().is(0);
        x.mount().is(0);
        x.make(0).is(0);
        x.count(0).is(1);
    }

    @Says("Power is on; what is kept is now: how many pieces all volumes have.")
    private static void mountAll300(Run x) {
        x.full();
        x.keep(0, 0).is(300);
        x.remove(0).is(100);
        x.remove(1).is(100);
        x.remove(2).is(100);
        x.again(300);
        for (int p = 0; p < 100; p++) {
            x.read(p % 3, p, 127).is(p + 1);
            x.shared(p % 3, p).is(1);
        }
    }

    @Says("Power is on; what is kept is now: how many pieces all volumes have.")
    private static void mountIsAsKeptForEverythingBehind(Run x) {
        x.withPieces(0, 1, 2);
        x.keep(0, 0).is(2);
        x.trim(0, 1, 1).is(1);
        x.again(2);
        x.write(0, 3, 0, 1, 1).is(3);
        x.keep(0, 0).is(3);
        x.trim(0, 2, 2).is(1);
        x.again(3);
        x.next(0, 0).is(1);
        x.next(0, 2).is(2);
        x.next(0, 3).is(3);
        x.check().is(0);
    }

    @Says("BAD: power is on.")
    private static void mountWithPower(Run x) {
        x.mount().is(BAD);
        x.withPieces(0, 1);
        x.keep(0, 0).is(1);
        x.write(0, 2, 0, 1, 1).is(2);
        x.mount().is(BAD);
        x.pieces(0).is(2);
        x.fail().is(0);
        x.mount().is(1);
        x.mount().is(BAD);
        x.lay().is(0);
        x.mount().is(BAD);
    }

    @Says("0 how many volumes are there")
    private static void countVolumesUpTo16(Run x) {
        x.count(0).is(0);
        for (int v = 0; v < 16; v++) {
            x.make(15 - v).is(0);
            x.count(0).is(v + 1);
        }
        for (int v = 0; v < 16; v++) {
            x.remove(v).is(0);
            x.count(0).is(15 - v);
        }
    }

    @Says("0 how many volumes are there")
    private static void countVolumesOfNow(Run x) {
        x.withVolumes(0, 3);
        x.snap(15, 0).is(0);
        x.count(0).is(4);
        x.keep(0, 0).is(0);
        x.remove(0).is(0);
        x.count(0).is(3);
        x.again(0);
        x.count(0).is(4);
    }

    @Says("1 how many times keep() went through, or its head counted, since lay().")
    private static void countKeeps(Run x) {
        x.count(1).is(0);
        for (int i = 1; i < 257; i++) {
            x.keep(0, 0).is(0);
            if (i == 1 || i == 2 || i == 127 || i == 128 || i == 255 || i == 256) {
                x.count(1).is(i);
            }
        }
        x.again(0);
        x.count(1).is(256);
    }

    @Says("1 how many times keep() went through, or its head counted, since lay().")
    private static void countHeadsThatCounted(Run x) {
        int[] counted = {0, 1, 1, 0};
        int due = 0;
        for (int i = 0; i < 40; i++) {
            x.keep(2, i % 4).is(OFF);
            x.mount().is(0);
            due += counted[i % 4];
            x.count(1).is(due);
        }
        x.keep(0, 0).is(0);
        x.count(1).is(21);
    }

    @Says("1 how many times keep() went through, or its head counted, since lay().")
    private static void countNotWhatDidNotGoThrough(Run x) {
        x.keep(0, 0).is(0);
        x.keep(3, 0).is(BAD);
        x.keep(-1, 0).is(BAD);
        x.count(1).is(1);
        x.keep(1, 0x5555555555555555L).is(OFF);
        x.keep(0, 0).is(OFF);
        x.mount().is(0);
        x.count(1).is(1);
        x.again(0);
        x.count(1).is(1);
    }

    @Says("since lay().")
    private static void countKeepsSinceLay(Run x) {
        for (int keeps = 0; keeps < 4; keeps++) {
            for (int i = 0; i < keeps; i++) {
                x.keep(0, 0).is(0);
            }
            x.count(1).is(keeps);
            x.lay().is(0);
            x.count(1).is(0);
        }
        x.keep(2, 1).is(OFF);
        x.lay().is(0);
        x.count(1).is(0);
        x.again(0);
        x.count(1).is(0);
        x.keep(0, 0).is(0);
        x.count(1).is(1);
    }

    @Says("BAD: another number.")
    private static void countAnotherNumber(Run x) {
        for (int which : new int[] {-1, 2, 3, -2, 256, MIN, MAX}) {
            x.count(which).is(BAD);
        }
    }

    @Says("Looks through all trees, tables and counts, now and as they were kept: 0")
    private static void checkBehindEachChange(Run x) {
        x.check().is(0);
        x.withPieces(0, 0, 31, 32, 127);
        x.check().is(0);
        x.snap(1, 0).is(4);
        x.check().is(0);
        x.write(1, 31, 0, 1, 1).is(4);
        x.check().is(0);
        x.keep(0, 0).is(8);
        x.check().is(0);
        x.write(0, 32, 0, 1, 1).is(4);
        x.check().is(0);
        x.trim(0, 0, 127).is(4);
        x.check().is(0);
        x.remove(0).is(0);
        x.check().is(0);
        x.tell(0, 255).is(0);
        x.check().is(0);
        x.lay().is(0);
        x.check().is(0);
    }

    @Says("Looks through all trees, tables and counts, now and as they were kept: 0")
    private static void checkOfAFullPool(Run x) {
        x.full();
        x.withVolumes(3, 13);
        x.check().is(0);
        x.keep(0, 0).is(300);
        x.check().is(0);
        for (int i = 0; i < 100; i++) {
            x.write(1 + i % 2, i, 0, 128, 255 - i).is(100);
        }
        x.check().is(0);
        x.keep(1, -1).is(OFF);
        x.mount().is(300);
        x.check().is(0);
    }

    @Says("Looks through all trees, tables and counts, now and as they were kept: 0")
    private static void checkBehindEachStop(Run x) {
        for (int stop = 1; stop <= 2; stop++) {
            for (int bits = 0; bits < 4; bits++) {
                Run y = x.another("stage " + stop + ", bits " + bits);
                y.full();
                y.keep(0, 0).is(300);
                y.trim(0, 10, 90).is(81);
                y.write(1, 50, 0, 128, 1).is(100);
                y.keep(stop, bits * 0x5555555555555555L).is(OFF);
                y.check().is(OFF);
                boolean counts = stop == 2 && (bits == 1 || bits == 2);
                y.mount().is(counts ? 219 : 300);
                y.check().is(0);
            }
        }
    }

    @Says("Looks through all trees, tables and counts, now and as they were kept: 0")
    private static void checkChangesNothing(Run x) {
        x.withPieces(0, 3);
        x.snap(1, 0).is(1);
        for (int i = 0; i < 20; i++) {
            x.check().is(0);
        }
        x.read(0, 3, 0).is(4);
        x.shared(1, 3).is(1);
        x.count(1).is(0);
    }
}
