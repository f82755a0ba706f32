/** Promises 1 to 5: a new object, lay, make, snap and remove, each boundary case by itself. */
public final class VolumesTest {
    private static final int BAD = -1, OFF = -2, FULL = -3;

    public static void main(String[] args) {
        Cases.runAll(VolumesTest.class);
    }

    private static void dueEmpty(Run x) {
        x.count(0).is(0);
        x.count(1).is(0);
        x.pieces(-1).is(0);
        for (int v = 0; v < 16; v++) {
            x.pieces(v).is(BAD);
        }
        for (int i = 0; i < 32; i++) {
            x.told(i).is(0);
        }
        x.check().is(0);
    }

    /** All there can be: 16 volumes, 300 pieces and 32 notes of 255, kept, and changed since. */
    private static Run withAll(Run x) {
        x.full();
        x.withVolumes(3, 13);
        for (int i = 0; i < 32; i++) {
            x.tell(i, 255).is(0);
        }
        x.keep(0, 0).is(300);
        x.write(2, 99, 0, 128, 0).is(100);
        return x;
    }

    @Says("As behind lay().")
    private static void newObjectIsEmpty(Run x) {
        dueEmpty(x);
    }

    @Says("As behind lay().")
    private static void newObjectIsKept(Run x) {
        x.again(0);
        dueEmpty(x);
    }

    @Says("As behind lay().")
    private static void newObjectHasPower(Run x) {
        x.mount().is(BAD);
        x.fail().is(0);
    }

    @Says("No volume is there, all notes are 0, and that is kept; power is on: 0.")
    private static void layOfANewObject(Run x) {
        x.lay().is(0);
        dueEmpty(x);
        x.again(0);
        dueEmpty(x);
    }

    @Says("No volume is there, all notes are 0, and that is kept; power is on: 0.")
    private static void layTwice(Run x) {
        x.withPieces(0, 0);
        x.lay().is(0);
        x.lay().is(0);
        dueEmpty(x);
    }

    @Says("No volume is there, all notes are 0")
    private static void layWithAllThere(Run x) {
        withAll(x).lay().is(0);
        dueEmpty(x);
    }

    @Says("and that is kept")
    private static void layIsKept(Run x) {
        for (int keeps = 0; keeps < 4; keeps++) {
            Run y = x.another(keeps + " times kept");
            y.withPieces(0, 0, 1);
            y.tell(0, 1).is(0);
            for (int i = 0; i < keeps; i++) {
                y.keep(0, 0).is(2);
            }
            y.lay().is(0);
            y.again(0);
            dueEmpty(y);
        }
    }

    @Says("power is on: 0.")
    private static void layWithoutPower(Run x) {
        withAll(x).fail().is(0);
        x.lay().is(0);
        x.mount().is(BAD);
        dueEmpty(x);
    }

    @Says("power is on: 0.")
    private static void layBehindAStop(Run x) {
        for (int stop = 1; stop <= 2; stop++) {
            for (int bits = 0; bits < 4; bits++) {
                Run y = x.another("stage " + stop + ", bits " + bits);
                y.withPieces(0, 0, 1);
                y.keep(0, 0).is(2);
                y.write(0, 2, 0, 1, 1).is(3);
                y.keep(stop, bits * 0x5555555555555555L).is(OFF);
                y.lay().is(0);
                dueEmpty(y);
                y.again(0);
                dueEmpty(y);
            }
        }
    }

    @Says("No volume is there, all notes are 0, and that is kept; power is on: 0.")
    private static void layGivesAllRoomBack(Run x) {
        withAll(x).lay().is(0);
        x.full();
        x.write(2, 100, 0, 1, 1).is(FULL);
        x.keep(0, 0).is(300);
        x.count(1).is(1);
        x.again(300);
        x.read(2, 99, 127).is(100);
    }

    @Says("An empty volume is there: 0.")
    private static void makeEmpty(Run x) {
        x.make(6).is(0);
        x.count(0).is(1);
        x.pieces(6).is(0);
        x.next(6, 0).is(128);
        x.read(6, 0, 0).is(0);
        x.remove(6).is(0);
    }

    @Says("An empty volume is there: 0.")
    private static void makeAll16(Run x) {
        for (int v = 0; v < 16; v++) {
            x.make(v).is(0);
            x.count(0).is(v + 1);
        }
        x.make(16).is(BAD);
        x.count(0).is(16);
        x.keep(0, 0).is(0);
        x.again(0);
        x.count(0).is(16);
    }

    @Says("An empty volume is there: 0.")
    private static void makeAnewIsEmpty(Run x) {
        x.withPieces(7, 0, 127);
        x.keep(0, 0).is(2);
        x.remove(7).is(2);
        x.make(7).is(0);
        x.pieces(7).is(0);
        x.read(7, 0, 0).is(0);
        x.read(7, 127, 127).is(0);
        x.again(2);
        x.read(7, 127, 127).is(128);
    }

    @Says("An empty volume is there: 0.")
    private static void makeInAFullPool(Run x) {
        x.full();
        x.make(15).is(0);
        x.pieces(15).is(0);
        x.pieces(-1).is(300);
    }

    @Says("BAD: no such number, or it is there.")
    private static void makeNoSuchNumber(Run x) {
        for (int v : new int[] {-1, 16, -2, 17, Integer.MIN_VALUE, Integer.MAX_VALUE}) {
            x.make(v).is(BAD);
        }
        dueEmpty(x);
    }

    @Says("BAD: no such number, or it is there.")
    private static void makeWhatIsThere(Run x) {
        x.withPieces(0, 5);
        x.withPieces(15, 6);
        x.snap(3, 0).is(1);
        x.make(0).is(BAD);
        x.make(15).is(BAD);
        x.make(3).is(BAD);
        x.read(0, 5, 0).is(6);
        x.read(15, 6, 0).is(7);
        x.read(3, 5, 0).is(6);
        x.shared(3, 5).is(1);
    }

    @Says("A volume is there that is as another one is now: how many pieces of it were written.")
    private static void snapIsAsTheOther(Run x) {
        x.withPieces(0, 0, 31, 32, 127);
        x.snap(15, 0).is(4);
        x.pieces(15).is(4);
        for (int p : new int[] {0, 31, 32, 127}) {
            x.next(15, p).is(p);
            x.read(15, p, 0).is(p + 1);
            x.read(15, p, 127).is(p + 1);
        }
        x.read(15, 1, 0).is(0);
    }

    @Says("how many pieces of it were written.")
    private static void snapOfAnEmptyOne(Run x) {
        x.make(15).is(0);
        x.snap(0, 15).is(0);
        x.pieces(0).is(0);
        x.count(0).is(2);
        x.write(0, 0, 0, 1, 1).is(1);
        x.pieces(15).is(0);
    }

    @Says("how many pieces of it were written.")
    private static void snapOfAllPieces(Run x) {
        x.withFirstPieces(0, 128);
        x.snap(1, 0).is(128);
        x.read(1, 127, 127).is(128);
        x.pieces(-1).is(256);
    }

    @Says("as another one is now")
    private static void snapIsAsItIsNowNotAsKept(Run x) {
        x.withPieces(0, 0);
        x.keep(0, 0).is(1);
        x.write(0, 0, 0, 64, 9).is(1);
        x.write(0, 1, 0, 1, 2).is(2);
        x.snap(1, 0).is(2);
        x.read(1, 0, 63).is(9);
        x.read(1, 0, 64).is(1);
        x.again(1);
        x.pieces(1).is(BAD);
    }

    @Says("as another one is now")
    private static void snapStaysWhenTheOtherChanges(Run x) {
        x.withPieces(0, 1, 2);
        x.snap(1, 0).is(2);
        x.write(0, 1, 0, 128, 77).is(2);
        x.trim(0, 2, 2).is(1);
        x.write(0, 3, 0, 1, 1).is(2);
        x.read(1, 1, 0).is(2);
        x.read(1, 2, 0).is(3);
        x.read(1, 3, 0).is(0);
        x.remove(0).is(2);
        x.pieces(1).is(2);
        x.read(1, 2, 127).is(3);
    }

    @Says("as another one is now")
    private static void otherStaysWhenSnapChanges(Run x) {
        x.withPieces(0, 1, 2);
        x.snap(1, 0).is(2);
        x.write(1, 1, 0, 128, 77).is(2);
        x.trim(1, 2, 2).is(1);
        x.write(1, 3, 0, 1, 1).is(2);
        x.read(0, 1, 0).is(2);
        x.read(0, 2, 0).is(3);
        x.read(0, 3, 0).is(0);
        x.remove(1).is(2);
        x.pieces(0).is(2);
    }

    @Says("A volume is there that is as another one is now")
    private static void snapAll15Others(Run x) {
        x.withFirstPieces(0, 18);
        for (int v = 1; v < 16; v++) {
            x.snap(v, v - 1).is(18);
        }
        x.pieces(-1).is(288);
        x.check().is(0);
        for (int v = 0; v < 16; v++) {
            x.write(v, v, 0, 128, 100 + v).is(18);
        }
        for (int v = 0; v < 16; v++) {
            x.read(v, v, 127).is(100 + v);
            x.read(v, 17, 0).is(18);
        }
    }

    @Says("BAD: no such number, or it is there; or the other one is not")
    private static void snapNoSuchNumber(Run x) {
        x.withPieces(0, 5);
        for (int v : new int[] {-1, 16, -2, 17, Integer.MIN_VALUE, Integer.MAX_VALUE}) {
            x.snap(v, 0).is(BAD);
        }
        x.count(0).is(1);
        x.pieces(-1).is(1);
        x.shared(0, 5).is(0);
    }

    @Says("BAD: no such number, or it is there; or the other one is not")
    private static void snapToWhatIsThere(Run x) {
        x.withPieces(0, 5);
        x.withPieces(1, 6);
        x.snap(1, 0).is(BAD);
        x.snap(0, 1).is(BAD);
        x.snap(0, 0).is(BAD);
        x.next(0, 0).is(5);
        x.next(1, 0).is(6);
        x.shared(0, 5).is(0);
    }

    @Says("or the other one is not")
    private static void snapOfWhatIsNotThere(Run x) {
        x.withPieces(0, 5);
        x.withPieces(2, 6);
        x.remove(2).is(1);
        for (int v : new int[] {1, 2, 15, -1, 16, Integer.MIN_VALUE, Integer.MAX_VALUE}) {
            x.snap(1, v).is(BAD);
        }
        x.snap(2, 2).is(BAD);
        x.count(0).is(1);
        x.pieces(1).is(BAD);
    }

    @Says("FULL: all volumes would have more than 300.")
    private static void snapUpTo300(Run x) {
        x.withFirstPieces(0, 100);
        x.snap(1, 0).is(100);
        x.snap(2, 0).is(100);
        x.pieces(-1).is(300);
        x.check().is(0);
    }

    @Says("FULL: all volumes would have more than 300.")
    private static void snapUpTo301(Run x) {
        x.withFirstPieces(0, 100);
        x.withPieces(3, 127);
        x.snap(1, 0).is(100);
        x.snap(2, 0).is(FULL);
        x.pieces(2).is(BAD);
        x.pieces(-1).is(201);
        x.count(0).is(3);
        x.snap(2, 3).is(1);
        x.remove(2).is(1);
        x.trim(3, 127, 127).is(1);
        x.snap(2, 0).is(100);
    }

    @Says("FULL: all volumes would have more than 300.")
    private static void snapInAFullPool(Run x) {
        x.full();
        x.make(3).is(0);
        x.snap(4, 0).is(FULL);
        x.snap(4, 3).is(0);
        x.trim(0, 1, 99).is(99);
        x.snap(5, 0).is(1);
        x.snap(6, 1).is(FULL);
        x.pieces(6).is(BAD);
        x.pieces(-1).is(202);
    }

    @Says("FULL: all volumes would have more than 300.")
    private static void snapIsBadBeforeFull(Run x) {
        x.full();
        x.snap(16, 0).is(BAD);
        x.snap(-1, 0).is(BAD);
        x.snap(1, 0).is(BAD);
        x.snap(0, 0).is(BAD);
        x.snap(3, 4).is(BAD);
        x.snap(3, 0).is(FULL);
    }

    @Says("A volume is there no more: how many pieces of it were written.")
    private static void removeAnEmptyOne(Run x) {
        x.make(0).is(0);
        x.make(15).is(0);
        x.remove(0).is(0);
        x.count(0).is(1);
        x.remove(15).is(0);
        x.count(0).is(0);
    }

    @Says("how many pieces of it were written.")
    private static void removeOneWithAllPieces(Run x) {
        x.withFirstPieces(0, 128);
        x.remove(0).is(128);
        dueEmpty(x);
    }

    @Says("how many pieces of it were written.")
    private static void removeBehindTrim(Run x) {
        x.withPieces(0, 1, 2, 3);
        x.trim(0, 2, 2).is(1);
        x.remove(0).is(2);
    }

    @Says("A volume is there no more")
    private static void removeAll16(Run x) {
        x.withFirstPieces(0, 18);
        for (int v = 1; v < 16; v++) {
            x.snap(v, 0).is(18);
        }
        for (int v = 0; v < 16; v++) {
            x.remove(v).is(18);
            x.count(0).is(15 - v);
            x.check().is(0);
        }
        dueEmpty(x);
    }

    @Says("A volume is there no more")
    private static void removeComesBackIfKept(Run x) {
        x.withPieces(0, 4);
        x.keep(0, 0).is(1);
        x.remove(0).is(1);
        x.again(1);
        x.read(0, 4, 0).is(5);
        x.remove(0).is(1);
        x.keep(0, 0).is(0);
        x.again(0);
        x.pieces(0).is(BAD);
    }

    @Says("A volume is there no more")
    private static void removeGivesRoomBack(Run x) {
        x.full();
        x.write(0, 100, 0, 1, 1).is(FULL);
        x.remove(1).is(100);
        x.pieces(-1).is(200);
        x.write(0, 100, 0, 1, 1).is(101);
        x.snap(1, 2).is(FULL);
        x.trim(0, 100, 100).is(1);
        x.snap(1, 2).is(100);
    }

    @Says("BAD: it is not there.")
    private static void removeWhatIsNotThere(Run x) {
        x.withPieces(1, 4);
        x.snap(2, 1).is(1);
        for (int v : new int[] {0, 3, 15, -1, 16, Integer.MIN_VALUE, Integer.MAX_VALUE}) {
            x.remove(v).is(BAD);
        }
        x.remove(1).is(1);
        x.remove(1).is(BAD);
        x.count(0).is(1);
        x.read(2, 4, 0).is(5);
    }
}
