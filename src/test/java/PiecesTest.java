/** Promises 6 to 11: write, read, trim, pieces, next and shared, each boundary case by itself. */
public final class PiecesTest {
    private static final int BAD = -1, OFF = -2, FULL = -3;
    private static final int MIN = Integer.MIN_VALUE, MAX = Integer.MAX_VALUE;

    public static void main(String[] args) {
        Cases.runAll(PiecesTest.class);
    }

    @Says("n bytes of a piece, from one on, become a value")
    private static void writeOneByte(Run x) {
        x.withPieces(0, 3);
        x.write(0, 3, 64, 1, 200).is(1);
        x.read(0, 3, 63).is(4);
        x.read(0, 3, 64).is(200);
        x.read(0, 3, 65).is(4);
    }

    @Says("n bytes of a piece, from one on, become a value")
    private static void writeAll128Bytes(Run x) {
        x.withPieces(0, 3);
        x.write(0, 3, 0, 128, 200).is(1);
        for (int at = 0; at < 128; at++) {
            x.read(0, 3, at).is(200);
        }
    }

    @Says("n bytes of a piece, from one on, become a value")
    private static void writeEveryLength(Run x) {
        x.make(0).is(0);
        for (int n = 1; n <= 128; n++) {
            x.write(0, n - 1, 128 - n, n, n).is(n);
        }
        for (int n = 1; n <= 127; n++) {
            x.read(0, n - 1, 128 - n).is(n);
            x.read(0, n - 1, 127 - n).is(0);
        }
    }

    @Says("how many pieces of the volume are written")
    private static void writeTellsHowMany(Run x) {
        x.withVolumes(0, 2);
        x.write(0, 0, 0, 1, 1).is(1);
        x.write(0, 0, 1, 1, 1).is(1);
        x.write(0, 127, 0, 1, 1).is(2);
        x.write(1, 0, 0, 1, 1).is(1);
        x.write(0, 0, 0, 128, 0).is(2);
        x.trim(0, 0, 0).is(1);
        x.write(0, 5, 0, 1, 1).is(2);
    }

    @Says("how many pieces of the volume are written")
    private static void writeTellsUpTo128(Run x) {
        x.make(0).is(0);
        for (int p = 127; p >= 0; p--) {
            x.write(0, p, 0, 1, 1).is(128 - p);
        }
        x.write(0, 0, 0, 1, 1).is(128);
    }

    @Says("n bytes of a piece, from one on, become a value")
    private static void writeOf0sIsWriting(Run x) {
        x.make(0).is(0);
        x.write(0, 9, 0, 128, 0).is(1);
        x.pieces(0).is(1);
        x.next(0, 0).is(9);
        x.keep(0, 0).is(1);
        x.again(1);
        x.next(0, 0).is(9);
    }

    @Says("BAD: it is not there")
    private static void writeToNoVolume(Run x) {
        x.withPieces(1, 3);
        x.withPieces(2, 3);
        x.remove(2).is(1);
        for (int v : new int[] {0, 2, 15, -1, 16, MIN, MAX}) {
            x.write(v, 3, 0, 1, 9).is(BAD);
        }
        x.pieces(-1).is(1);
    }

    @Says("no such piece or bytes")
    private static void writeToNoPiece(Run x) {
        x.withPieces(1, 0, 127);
        for (int p : new int[] {-1, 128, MIN, MAX}) {
            x.write(1, p, 0, 128, 9).is(BAD);
        }
        x.pieces(1).is(2);
        x.read(1, 0, 0).is(1);
        x.read(1, 127, 0).is(128);
    }

    @Says("no such piece or bytes")
    private static void writeUpToTheLastByte(Run x) {
        x.make(0).is(0);
        x.write(0, 0, 127, 1, 9).is(1);
        x.write(0, 1, 126, 2, 9).is(2);
        x.write(0, 2, 64, 64, 9).is(3);
        x.write(0, 3, 1, 127, 9).is(4);
        x.write(0, 4, 0, 128, 9).is(5);
        for (int p = 0; p < 5; p++) {
            x.read(0, p, 127).is(9);
        }
    }

    @Says("no such piece or bytes")
    private static void writeOneByteTooFar(Run x) {
        x.make(0).is(0);
        x.write(0, 0, 128, 1, 9).is(BAD);
        x.write(0, 0, 127, 2, 9).is(BAD);
        x.write(0, 0, 64, 65, 9).is(BAD);
        x.write(0, 0, 1, 128, 9).is(BAD);
        x.write(0, 0, 127, 128, 9).is(BAD);
        x.pieces(0).is(0);
        x.read(0, 1, 0).is(0);
    }

    @Says("no such piece or bytes")
    private static void writeBeforeTheFirstByte(Run x) {
        x.make(0).is(0);
        x.write(0, 1, -1, 1, 9).is(BAD);
        x.write(0, 1, -1, 2, 9).is(BAD);
        x.write(0, 1, -127, 128, 9).is(BAD);
        x.write(0, 1, MIN, 1, 9).is(BAD);
        x.pieces(0).is(0);
    }

    @Says("no such piece or bytes")
    private static void writeWhereTheSumWrapsAround(Run x) {
        x.make(0).is(0);
        x.write(0, 1, MAX, 1, 9).is(BAD);
        x.write(0, 1, MAX, 128, 9).is(BAD);
        x.write(0, 1, MAX - 127, 128, 9).is(BAD);
        x.write(0, 1, MAX, MAX, 9).is(BAD);
        x.write(0, 1, 1, MAX, 9).is(BAD);
        x.write(0, 1, 127, MAX, 9).is(BAD);
        x.write(0, 1, MIN, MIN, 9).is(BAD);
        x.write(0, 1, 127, MIN, 9).is(BAD);
        x.pieces(0).is(0);
    }

    @Says("n is not 1 .. 128")
    private static void writeNoBytes(Run x) {
        x.make(0).is(0);
        for (int n : new int[] {0, -1, -128, MIN}) {
            x.write(0, 1, 0, n, 9).is(BAD);
            x.write(0, 1, 127, n, 9).is(BAD);
        }
        x.pieces(0).is(0);
    }

    @Says("n is not 1 .. 128")
    private static void writeTooManyBytes(Run x) {
        x.make(0).is(0);
        for (int n : new int[] {129, 130, 256, 257, MAX}) {
            x.write(0, 1, 0, n, 9).is(BAD);
        }
        x.write(0, 1, -1, 129, 9).is(BAD);
        x.pieces(0).is(0);
    }

    @Says("value not 0 .. 255")
    private static void writeLeastAndGreatestValue(Run x) {
        x.make(0).is(0);
        x.write(0, 1, 0, 128, 255).is(1);
        x.read(0, 1, 0).is(255);
        x.read(0, 1, 127).is(255);
        x.write(0, 1, 0, 64, 0).is(1);
        x.read(0, 1, 63).is(0);
        x.read(0, 1, 64).is(255);
        x.write(0, 1, 0, 1, 128).is(1);
        x.read(0, 1, 0).is(128);
        x.write(0, 1, 0, 1, 127).is(1);
        x.read(0, 1, 0).is(127);
    }

    @Says("value not 0 .. 255")
    private static void writeNoSuchValue(Run x) {
        x.withPieces(0, 1);
        for (int value : new int[] {-1, 256, -128, 511, 65536, MIN, MAX}) {
            x.write(0, 1, 0, 1, value).is(BAD);
            x.write(0, 2, 0, 1, value).is(BAD);
        }
        x.read(0, 1, 0).is(2);
        x.pieces(0).is(1);
    }

    @Says("n bytes of a piece, from one on, become a value")
    private static void writeEveryValue(Run x) {
        x.make(0).is(0);
        for (int value = 0; value < 255; value++) {
            x.write(0, value / 2, value % 128, 1, value);
            x.read(0, value / 2, value % 128).is(value);
        }
    }

    @Says("FULL: it was empty, and all volumes have 300.")
    private static void writeWithout300(Run x) {
        x.full();
        x.trim(1, 5, 5).is(1);
        x.write(0, 127, 0, 1, 1).is(101);
        x.pieces(-1).is(300);
    }

    @Says("FULL: it was empty, and all volumes have 300.")
    private static void writeEmptyWith300(Run x) {
        x.full();
        x.make(15).is(0);
        x.write(0, 100, 0, 1, 1).is(FULL);
        x.write(0, 127, 127, 1, 255).is(FULL);
        x.write(15, 0, 0, 128, 0).is(FULL);
        x.read(0, 127, 127).is(0);
        x.next(0, 100).is(128);
        x.pieces(15).is(0);
        x.pieces(-1).is(300);
    }

    @Says("FULL: it was empty, and all volumes have 300.")
    private static void writeWrittenWith300(Run x) {
        x.full();
        x.write(0, 0, 0, 128, 9).is(100);
        x.write(1, 99, 0, 128, 9).is(100);
        x.keep(0, 0).is(300);
        x.write(2, 50, 0, 128, 9).is(100);
        x.read(2, 50, 127).is(9);
        x.read(1, 50, 127).is(51);
        x.write(2, 100, 0, 1, 9).is(FULL);
    }

    @Says("FULL: it was empty, and all volumes have 300.")
    private static void writeIsBadBeforeFull(Run x) {
        x.full();
        x.write(3, 100, 0, 1, 1).is(BAD);
        x.write(0, 128, 0, 1, 1).is(BAD);
        x.write(0, 100, 128, 1, 1).is(BAD);
        x.write(0, 100, 0, 129, 1).is(BAD);
        x.write(0, 100, 0, 0, 1).is(BAD);
        x.write(0, 100, 0, 1, 256).is(BAD);
        x.write(0, 100, 0, 1, -1).is(BAD);
        x.write(0, 100, 0, 1, 1).is(FULL);
    }

    @Says("A byte of a piece: 0 .. 255.")
    private static void readFirstAndLastByte(Run x) {
        x.make(0).is(0);
        x.write(0, 0, 0, 1, 255);
        x.write(0, 127, 127, 1, 254);
        x.read(0, 0, 0).is(255);
        x.read(0, 127, 127).is(254);
        x.read(0, 0, 127).is(0);
        x.read(0, 127, 0).is(0);
    }

    @Says("A byte of a piece: 0 .. 255.")
    private static void readAnEmptyPiece(Run x) {
        x.withPieces(0, 1);
        x.read(0, 0, 0).is(0);
        x.read(0, 2, 127).is(0);
        x.read(0, 127, 127).is(0);
    }

    @Says("BAD: the volume is not there; no such piece or byte.")
    private static void readWhatIsNotThere(Run x) {
        x.withPieces(0, 0, 127);
        for (int v : new int[] {1, 15, -1, 16, MIN, MAX}) {
            x.read(v, 0, 0).is(BAD);
        }
        for (int p : new int[] {-1, 128, MIN, MAX}) {
            x.read(0, p, 0).is(BAD);
        }
        for (int at : new int[] {-1, 128, 129, MIN, MAX}) {
            x.read(0, 0, at).is(BAD);
            x.read(0, 127, at).is(BAD);
            x.read(0, 5, at).is(BAD);
        }
        x.pieces(0).is(2);
    }

    @Says("Pieces of a volume, from one up to another one, that with them, are empty")
    private static void trimOnePiece(Run x) {
        x.withPieces(0, 4, 5, 6);
        x.trim(0, 5, 5).is(1);
        x.read(0, 4, 0).is(5);
        x.read(0, 5, 0).is(0);
        x.read(0, 6, 0).is(7);
    }

    @Says("from one up to another one, that with them, are empty")
    private static void trimWithBothEnds(Run x) {
        x.withPieces(0, 9, 10, 11, 19, 20, 21);
        x.trim(0, 10, 20).is(4);
        x.next(0, 0).is(9);
        x.next(0, 10).is(21);
        x.pieces(0).is(2);
    }

    @Says("Pieces of a volume, from one up to another one, that with them, are empty")
    private static void trimFirstAndLastPiece(Run x) {
        x.withPieces(0, 0, 1, 126, 127);
        x.trim(0, 0, 0).is(1);
        x.trim(0, 127, 127).is(1);
        x.next(0, 0).is(1);
        x.next(0, 2).is(126);
        x.next(0, 127).is(128);
    }

    @Says("Pieces of a volume, from one up to another one, that with them, are empty")
    private static void trimAllPieces(Run x) {
        x.withFirstPieces(0, 128);
        x.snap(1, 0).is(128);
        x.trim(0, 0, 127).is(128);
        x.pieces(0).is(0);
        x.count(0).is(2);
        x.pieces(1).is(128);
        x.check().is(0);
        x.trim(1, 0, 127).is(128);
        x.pieces(-1).is(0);
        x.check().is(0);
    }

    @Says("how many were written.")
    private static void trimWhatIsEmpty(Run x) {
        x.make(0).is(0);
        x.trim(0, 0, 127).is(0);
        x.withPieces(1, 64);
        x.trim(1, 0, 63).is(0);
        x.trim(1, 65, 127).is(0);
        x.trim(1, 0, 127).is(1);
        x.trim(1, 0, 127).is(0);
    }

    @Says("how many were written.")
    private static void trimTwiceTheSame(Run x) {
        x.withPieces(0, 31, 32, 33);
        x.trim(0, 31, 32).is(2);
        x.trim(0, 31, 32).is(0);
        x.trim(0, 31, 33).is(1);
    }

    @Says("BAD: it is not there; no such piece, or the second one is less.")
    private static void trimSecondIsLess(Run x) {
        x.withPieces(0, 0, 4, 5, 127);
        x.trim(0, 5, 4).is(BAD);
        x.trim(0, 1, 0).is(BAD);
        x.trim(0, 127, 126).is(BAD);
        x.trim(0, 127, 0).is(BAD);
        x.pieces(0).is(4);
    }

    @Says("BAD: it is not there; no such piece, or the second one is less.")
    private static void trimNoSuchPiece(Run x) {
        x.withPieces(0, 0, 127);
        x.trim(0, -1, 0).is(BAD);
        x.trim(0, -1, -1).is(BAD);
        x.trim(0, 127, 128).is(BAD);
        x.trim(0, 128, 128).is(BAD);
        x.trim(0, MIN, 0).is(BAD);
        x.trim(0, 0, MAX).is(BAD);
        x.trim(0, MIN, MAX).is(BAD);
        x.trim(0, MAX, MAX).is(BAD);
        x.trim(0, MIN, MIN).is(BAD);
        x.pieces(0).is(2);
    }

    @Says("BAD: it is not there; no such piece, or the second one is less.")
    private static void trimNoVolume(Run x) {
        x.withPieces(0, 0);
        for (int v : new int[] {1, 15, -1, 16, MIN, MAX}) {
            x.trim(v, 0, 127).is(BAD);
        }
        x.pieces(-1).is(1);
    }

    @Says("Pieces of a volume, from one up to another one, that with them, are empty")
    private static void trimLeavesSnapshotsAndWhatIsKept(Run x) {
        x.withPieces(0, 0, 31, 32);
        x.snap(1, 0).is(3);
        x.keep(0, 0).is(6);
        x.trim(0, 0, 31).is(2);
        x.pieces(1).is(3);
        x.read(1, 31, 127).is(32);
        x.shared(1, 31).is(0);
        x.shared(1, 32).is(1);
        x.again(6);
        x.read(0, 31, 127).is(32);
    }

    @Says("How many pieces of a volume are written; all together for -1.")
    private static void piecesOfNone(Run x) {
        x.pieces(-1).is(0);
        x.make(0).is(0);
        x.pieces(0).is(0);
        x.pieces(-1).is(0);
    }

    @Says("How many pieces of a volume are written; all together for -1.")
    private static void piecesOfAll(Run x) {
        x.full();
        x.pieces(0).is(100);
        x.pieces(-1).is(300);
        x.remove(0).is(100);
        x.pieces(-1).is(200);
        x.trim(1, 0, 9).is(10);
        x.pieces(1).is(90);
        x.pieces(-1).is(190);
    }

    @Says("How many pieces of a volume are written; all together for -1.")
    private static void piecesOf128(Run x) {
        x.withFirstPieces(15, 128);
        x.pieces(15).is(128);
        x.pieces(-1).is(128);
    }

    @Says("BAD: it is not there.")
    private static void piecesOfNoVolume(Run x) {
        x.withPieces(1, 0);
        for (int v : new int[] {0, 2, 15, 16, 17, -2, -3, MIN, MAX}) {
            x.pieces(v).is(BAD);
        }
        x.remove(1).is(1);
        x.pieces(1).is(BAD);
    }

    @Says("The least piece of a volume that is written, from one (that one too) on")
    private static void nextIsThatOneToo(Run x) {
        x.withPieces(0, 0, 31, 32, 127);
        for (int p : new int[] {0, 31, 32, 127}) {
            x.next(0, p).is(p);
        }
    }

    @Says("The least piece of a volume that is written, from one (that one too) on")
    private static void nextIsTheLeast(Run x) {
        x.withPieces(0, 0, 31, 32, 127);
        x.next(0, 1).is(31);
        x.next(0, 30).is(31);
        x.next(0, 33).is(127);
        x.next(0, 126).is(127);
    }

    @Says("128 when there is none.")
    private static void nextWhenThereIsNone(Run x) {
        x.make(0).is(0);
        x.next(0, 0).is(128);
        x.next(0, 127).is(128);
        x.write(0, 126, 0, 1, 1).is(1);
        x.next(0, 127).is(128);
        x.trim(0, 126, 126).is(1);
        x.next(0, 0).is(128);
    }

    @Says("BAD: it is not there; no such piece.")
    private static void nextOfWhatIsNotThere(Run x) {
        x.withPieces(0, 0, 127);
        for (int v : new int[] {1, 15, -1, 16, MIN, MAX}) {
            x.next(v, 0).is(BAD);
        }
        for (int p : new int[] {-1, 128, 129, MIN, MAX}) {
            x.next(0, p).is(BAD);
        }
    }

    @Says("1 or 0 (also when it is empty).")
    private static void sharedWhenEmpty(Run x) {
        x.withPieces(0, 5);
        x.snap(1, 0).is(1);
        x.shared(0, 4).is(0);
        x.shared(1, 6).is(0);
        x.trim(0, 5, 5).is(1);
        x.shared(0, 5).is(0);
        x.shared(1, 5).is(0);
        x.trim(1, 5, 5).is(1);
        x.shared(1, 5).is(0);
    }

    @Says("1 or 0 (also when it is empty).")
    private static void sharedInOneVolumeAlone(Run x) {
        x.withPieces(0, 0, 127);
        x.shared(0, 0).is(0);
        x.shared(0, 127).is(0);
        x.keep(0, 0).is(2);
        x.shared(0, 0).is(0);
    }

    @Says("since one was made of the other")
    private static void sharedFirstAndLastPiece(Run x) {
        x.withPieces(0, 0, 127);
        x.snap(15, 0).is(2);
        x.shared(0, 0).is(1);
        x.shared(0, 127).is(1);
        x.shared(15, 0).is(1);
        x.shared(15, 127).is(1);
    }

    @Says("since one was made of the other")
    private static void sharedNotByTheSameBytes(Run x) {
        x.withPieces(0, 5);
        x.withPieces(1, 5);
        x.shared(0, 5).is(0);
        x.shared(1, 5).is(0);
    }

    @Says("(or both of others, that may be there no more)")
    private static void sharedByOthersThatAreGone(Run x) {
        x.withPieces(0, 5);
        x.snap(1, 0).is(1);
        x.snap(2, 1).is(1);
        x.snap(3, 0).is(1);
        x.remove(0).is(1);
        x.remove(1).is(1);
        x.shared(2, 5).is(1);
        x.shared(3, 5).is(1);
        x.remove(2).is(1);
        x.shared(3, 5).is(0);
    }

    @Says("and was not written in either since, whatever was written")
    private static void sharedUntilOneIsWritten(Run x) {
        x.withPieces(0, 5, 6, 40);
        x.snap(1, 0).is(3);
        x.write(1, 5, 9, 1, 77).is(3);
        x.shared(0, 5).is(0);
        x.shared(1, 5).is(0);
        x.write(0, 6, 9, 1, 77).is(3);
        x.shared(0, 6).is(0);
        x.shared(1, 6).is(0);
        x.shared(0, 40).is(1);
        x.shared(1, 40).is(1);
    }

    @Says("and was not written in either since, whatever was written")
    private static void sharedNoMoreBySameBytesWrittenAgain(Run x) {
        x.withPieces(0, 5, 6);
        x.snap(1, 0).is(2);
        x.write(1, 5, 0, 128, 6).is(2);
        x.shared(0, 5).is(0);
        x.shared(1, 5).is(0);
        x.write(0, 6, 0, 1, 7).is(2);
        x.shared(0, 6).is(0);
        x.shared(1, 6).is(0);
    }

    @Says("Whether a piece that was written in a volume is the same as in another one now")
    private static void sharedByTwoOfThree(Run x) {
        x.withPieces(0, 5);
        x.snap(1, 0).is(1);
        x.snap(2, 0).is(1);
        x.write(1, 5, 0, 1, 9).is(1);
        x.shared(0, 5).is(1);
        x.shared(1, 5).is(0);
        x.shared(2, 5).is(1);
        x.snap(3, 1).is(1);
        x.shared(1, 5).is(1);
        x.write(2, 5, 0, 1, 9).is(1);
        x.shared(0, 5).is(0);
        x.shared(2, 5).is(0);
        x.shared(3, 5).is(1);
    }

    @Says("Whether a piece that was written in a volume is the same as in another one now")
    private static void sharedByAll16(Run x) {
        x.withPieces(0, 127);
        for (int v = 1; v < 16; v++) {
            x.snap(v, 0).is(1);
        }
        for (int v = 0; v < 16; v++) {
            x.shared(v, 127).is(1);
        }
        for (int v = 0; v < 15; v++) {
            x.write(v, 127, 0, 1, v).is(1);
            x.shared(v, 127).is(0);
            x.shared(15, 127).is(v < 14 ? 1 : 0);
        }
    }

    @Says("Whether a piece that was written in a volume is the same as in another one now")
    private static void sharedIsOfNowNotOfKept(Run x) {
        x.withPieces(0, 5);
        x.snap(1, 0).is(1);
        x.keep(0, 0).is(2);
        x.remove(1).is(1);
        x.shared(0, 5).is(0);
        x.snap(2, 0).is(1);
        x.shared(0, 5).is(1);
        x.write(0, 5, 0, 1, 6).is(1);
        x.shared(2, 5).is(0);
    }

    @Says("(behind a loss of power as when that was kept)")
    private static void sharedBehindALossOfPower(Run x) {
        x.withPieces(0, 5, 6);
        x.snap(1, 0).is(2);
        x.write(1, 6, 0, 1, 9).is(2);
        x.keep(0, 0).is(4);
        x.write(0, 5, 0, 1, 9).is(2);
        x.shared(0, 5).is(0);
        x.again(4);
        x.shared(0, 5).is(1);
        x.shared(1, 5).is(1);
        x.shared(0, 6).is(0);
        x.shared(1, 6).is(0);
    }

    @Says("(behind a loss of power as when that was kept)")
    private static void sharedBehindAHeadThatCounts(Run x) {
        x.withPieces(0, 5, 6);
        x.snap(1, 0).is(2);
        x.keep(0, 0).is(4);
        x.write(0, 5, 0, 1, 9).is(2);
        x.keep(2, 2).is(OFF);
        x.mount().is(4);
        x.shared(0, 5).is(0);
        x.shared(1, 5).is(0);
        x.shared(0, 6).is(1);
        x.shared(1, 6).is(1);
    }

    @Says("BAD: it is not there; no such piece.")
    private static void sharedOfWhatIsNotThere(Run x) {
        x.withPieces(0, 0, 127);
        x.snap(1, 0).is(2);
        for (int v : new int[] {2, 15, -1, 16, MIN, MAX}) {
            x.shared(v, 0).is(BAD);
        }
        for (int p : new int[] {-1, 128, 129, MIN, MAX}) {
            x.shared(0, p).is(BAD);
        }
    }
}
