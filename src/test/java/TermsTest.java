/** The sentences of 'What it is' and of 'Terms', each with its boundary cases. */
public final class TermsTest {
    private static final int BAD = -1, FULL = -3;

    public static void main(String[] args) {
        Cases.runAll(TermsTest.class);
    }

    @Says("An object is used for at most 512 calls after it has been made")
    private static void call512OfNotes(Run x) {
        for (int i = 0; i < 511; i++) {
            x.tell(i % 32, i % 256).is(i < 32 ? 0 : (i - 32) % 256);
        }
        x.told(511 - 1 - 480).is(510 % 256);
    }

    @Says("An object is used for at most 512 calls after it has been made")
    private static void call512OfKeeping(Run x) {
        for (int i = 0; i < 511; i++) {
            x.keep(0, 0).is(0);
        }
        x.count(1).is(511);
    }

    @Says("An object is used for at most 512 calls after it has been made")
    private static void call512OfWriting(Run x) {
        x.make(0);
        for (int i = 0; i < 510; i++) {
            x.write(0, i % 128, i % 128, 1, i % 256).is(Math.min(i + 1, 128));
        }
        x.check().is(0);
    }

    /** In each round every volume's root, leaf and piece are copied, 48 blocks in 17 calls. */
    @Says("An object is used for at most 512 calls after it has been made")
    private static void call512OfCopying(Run x) {
        x.withVolumes(0, 16);
        for (int round = 0; round < 29; round++) {
            for (int v = 0; v < 16; v++) {
                x.write(v, 0, 0, 128, (round + v) % 256).is(1);
            }
            x.keep(0, 0).is(16);
        }
        x.check().is(0);
        x.read(15, 0, 127).is(28 + 15);
        x.read(0, 0, 0).is(28);
    }

    @Says("An object is used for at most 512 calls after it has been made")
    private static void call512OfSnapshots(Run x) {
        x.withPieces(0, 5);
        for (int i = 0; i < 127; i++) {
            x.snap(1, 0).is(1);
            x.write(1, 5, 0, 1, i).is(1);
            x.keep(0, 0).is(2);
            x.remove(1).is(1);
        }
        x.read(0, 5, 0).is(6);
        x.check().is(0);
    }

    @Says("An object is used for at most 512 calls after it has been made")
    private static void call512OfLosingPower(Run x) {
        x.withPieces(0, 5);
        x.keep(0, 0).is(1);
        for (int i = 0; i < 127; i++) {
            x.write(0, 6, 0, 1, i).is(2);
            x.keep(1 + i % 2, i % 4);
            x.mount().is(i == 0 ? 1 : 2);
            x.check().is(0);
        }
        x.count(1).is(1 + 32);
    }

    @Says("All memory is the class's own, made once.")
    private static void twoObjectsAreApart(Run x) {
        Run other = x.another("the other one");
        x.withPieces(0, 1, 2);
        x.tell(3, 4).is(0);
        x.keep(0, 0).is(2);
        other.count(0).is(0);
        other.told(3).is(0);
        other.again(0);
        other.withPieces(0, 9);
        x.next(0, 0).is(1);
        x.next(0, 3).is(128);
        other.fail().is(0);
        x.pieces(0).is(2);
    }

    @Says("VOLUMES have numbers 0 .. 15")
    private static void volume0(Run x) {
        x.make(0).is(0);
        useVolume(x, 0, 1);
    }

    @Says("VOLUMES have numbers 0 .. 15")
    private static void volume15(Run x) {
        x.make(15).is(0);
        useVolume(x, 15, 14);
    }

    private static void useVolume(Run x, int v, int other) {
        x.write(v, 3, 0, 128, 7).is(1);
        x.read(v, 3, 127).is(7);
        x.pieces(v).is(1);
        x.next(v, 0).is(3);
        x.snap(other, v).is(1);
        x.shared(v, 3).is(1);
        x.trim(v, 3, 3).is(1);
        x.remove(v).is(0);
        x.snap(v, other).is(1);
        x.read(v, 3, 0).is(7);
    }

    @Says("VOLUMES have numbers 0 .. 15")
    private static void volumeMinus1(Run x) {
        x.withPieces(0, 0);
        x.pieces(-1).is(1);
        refuseVolume(x, -1);
    }

    @Says("VOLUMES have numbers 0 .. 15")
    private static void volume16(Run x) {
        x.withPieces(0, 0);
        x.pieces(16).is(BAD);
        refuseVolume(x, 16);
    }

    @Says("VOLUMES have numbers 0 .. 15")
    private static void volumesFarAway(Run x) {
        x.withPieces(0, 0);
        for (int v : new int[] {Integer.MIN_VALUE, Integer.MIN_VALUE + 1, -16, -2, 17, 32, 256, 65536, Integer.MAX_VALUE}) {
            x.pieces(v).is(BAD);
            refuseVolume(x, v);
        }
    }

    private static void refuseVolume(Run x, int v) {
        x.make(v).is(BAD);
        x.snap(v, 0).is(BAD);
        x.snap(1, v).is(BAD);
        x.remove(v).is(BAD);
        x.write(v, 0, 0, 1, 1).is(BAD);
        x.read(v, 0, 0).is(BAD);
        x.trim(v, 0, 0).is(BAD);
        x.next(v, 0).is(BAD);
        x.shared(v, 0).is(BAD);
        x.count(0).is(1);
        x.pieces(-1).is(1);
    }

    @Says("one is there or not.")
    private static void noVolumeIsThere(Run x) {
        x.count(0).is(0);
        for (int v = 0; v < 16; v++) {
            refuseAbsent(x, v);
        }
        x.count(0).is(0);
    }

    @Says("one is there or not.")
    private static void allVolumesAreThere(Run x) {
        x.withVolumes(0, 16);
        x.count(0).is(16);
        for (int v = 0; v < 16; v++) {
            x.make(v).is(BAD);
            x.snap(v, (v + 1) % 16).is(BAD);
            x.pieces(v).is(0);
        }
        x.count(0).is(16);
    }

    @Says("one is there or not.")
    private static void volumeIsThereNoMore(Run x) {
        x.withPieces(7, 0, 127);
        x.remove(7).is(2);
        refuseAbsent(x, 7);
        x.make(7).is(0);
        x.pieces(7).is(0);
    }

    private static void refuseAbsent(Run x, int v) {
        x.remove(v).is(BAD);
        x.write(v, 0, 0, 1, 1).is(BAD);
        x.read(v, 0, 0).is(BAD);
        x.trim(v, 0, 127).is(BAD);
        x.pieces(v).is(BAD);
        x.next(v, 0).is(BAD);
        x.shared(v, 0).is(BAD);
        x.snap((v + 1) % 16, v).is(BAD);
    }

    @Says("It has PIECES 0 .. 127")
    private static void piece0(Run x) {
        x.make(3);
        usePiece(x, 0);
    }

    @Says("It has PIECES 0 .. 127")
    private static void piece127(Run x) {
        x.make(3);
        usePiece(x, 127);
    }

    private static void usePiece(Run x, int p) {
        x.write(3, p, 0, 128, 5).is(1);
        x.read(3, p, 0).is(5);
        x.next(3, p).is(p);
        x.next(3, 0).is(p);
        x.shared(3, p).is(0);
        x.trim(3, p, p).is(1);
        x.next(3, p).is(128);
    }

    @Says("It has PIECES 0 .. 127")
    private static void pieceMinus1(Run x) {
        refusePiece(x.withPieces(3, 0, 127), -1);
    }

    @Says("It has PIECES 0 .. 127")
    private static void piece128(Run x) {
        refusePiece(x.withPieces(3, 0, 127), 128);
    }

    @Says("It has PIECES 0 .. 127")
    private static void piecesFarAway(Run x) {
        x.withPieces(3, 0, 127);
        for (int p : new int[] {Integer.MIN_VALUE, -128, -2, 129, 255, 256, 65536, Integer.MAX_VALUE}) {
            refusePiece(x, p);
        }
    }

    private static void refusePiece(Run x, int p) {
        x.write(3, p, 0, 1, 1).is(BAD);
        x.read(3, p, 0).is(BAD);
        x.next(3, p).is(BAD);
        x.shared(3, p).is(BAD);
        x.trim(3, p, p).is(BAD);
        x.trim(3, p, 127).is(BAD);
        x.trim(3, 0, p).is(BAD);
        x.pieces(3).is(2);
    }

    @Says("It has PIECES 0 .. 127")
    private static void all128Pieces(Run x) {
        x.withFirstPieces(4, 128);
        for (int p = 0; p < 128; p++) {
            x.read(4, p, p).is(p + 1);
        }
        x.trim(4, 0, 127).is(128);
    }

    @Says("each of 128 bytes")
    private static void byte0(Run x) {
        x.make(0);
        x.write(0, 9, 0, 1, 8).is(1);
        x.read(0, 9, 0).is(8);
        x.read(0, 9, 1).is(0);
    }

    @Says("each of 128 bytes")
    private static void byte127(Run x) {
        x.make(0);
        x.write(0, 9, 127, 1, 8).is(1);
        x.read(0, 9, 127).is(8);
        x.read(0, 9, 126).is(0);
        x.read(0, 10, 0).is(0);
    }

    @Says("each of 128 bytes")
    private static void byteMinus1(Run x) {
        refuseByte(x.withPieces(0, 9), -1);
    }

    @Says("each of 128 bytes")
    private static void byte128(Run x) {
        refuseByte(x.withPieces(0, 9), 128);
    }

    private static void refuseByte(Run x, int at) {
        x.write(0, 9, at, 1, 8).is(BAD);
        x.read(0, 9, at).is(BAD);
        x.write(0, 8, at, 1, 8).is(BAD);
        x.read(0, 8, at).is(BAD);
        x.pieces(0).is(1);
    }

    @Says("each of 128 bytes")
    private static void all128Bytes(Run x) {
        x.make(0);
        for (int at = 0; at < 128; at++) {
            x.write(0, 31, at, 1, 255 - at).is(1);
        }
        for (int at = 0; at < 128; at++) {
            x.read(0, 31, at).is(255 - at);
        }
    }

    @Says("some were written, all others are empty, and read as 0s.")
    private static void newVolumeReadsAs0s(Run x) {
        x.make(15);
        for (int p = 0; p < 128; p++) {
            x.read(15, p, 0).is(0);
            x.read(15, p, 127).is(0);
            x.shared(15, p).is(0);
        }
        x.pieces(15).is(0);
    }

    @Says("some were written, all others are empty, and read as 0s.")
    private static void othersStayEmpty(Run x) {
        x.withPieces(0, 64);
        for (int p = 0; p < 128; p++) {
            x.read(0, p, 64).is(p == 64 ? 65 : 0);
            x.next(0, p).is(p <= 64 ? 64 : 128);
        }
        x.pieces(0).is(1);
    }

    @Says("some were written, all others are empty, and read as 0s.")
    private static void bytesBesideTheWrittenOnes(Run x) {
        x.make(0);
        x.write(0, 2, 60, 8, 255).is(1);
        for (int at = 0; at < 128; at++) {
            x.read(0, 2, at).is(at >= 60 && at < 68 ? 255 : 0);
        }
    }

    @Says("some were written, all others are empty, and read as 0s.")
    private static void emptiedPieceReadsAs0s(Run x) {
        x.withPieces(0, 2);
        x.trim(0, 2, 2).is(1);
        for (int at = 0; at < 128; at++) {
            x.read(0, 2, at).is(0);
        }
        x.write(0, 2, 5, 1, 9).is(1);
        for (int at = 0; at < 128; at++) {
            x.read(0, 2, at).is(at == 5 ? 9 : 0);
        }
    }

    /** By 20 rounds of 48 copies each block of any pool of this size was used before. */
    @Says("some were written, all others are empty, and read as 0s.")
    private static void blocksThatWereUsedBefore(Run x) {
        x.withVolumes(0, 16);
        for (int round = 0; round < 20; round++) {
            for (int v = 0; v < 16; v++) {
                x.write(v, 0, 0, 128, 255).is(1);
            }
            x.keep(0, 0).is(16);
        }
        x.write(9, 50, 7, 1, 3).is(2);
        for (int at = 0; at < 128; at++) {
            x.read(9, 50, at).is(at == 7 ? 3 : 0);
        }
        x.read(9, 51, 0).is(0);
        x.remove(8).is(1);
        x.make(8).is(0);
        x.next(8, 0).is(128);
    }

    @Says("All volumes together have at most 300 pieces that were written")
    private static void piece300AndTheNext(Run x) {
        x.withFirstPieces(0, 128);
        x.withFirstPieces(1, 128);
        x.withFirstPieces(2, 43);
        x.pieces(-1).is(299);
        x.write(2, 43, 0, 1, 1).is(44);
        x.pieces(-1).is(300);
        x.write(2, 44, 0, 1, 1).is(FULL);
        x.make(3).is(0);
        x.write(3, 0, 0, 1, 1).is(FULL);
        x.pieces(-1).is(300);
        x.pieces(2).is(44);
        x.pieces(3).is(0);
        x.read(2, 44, 0).is(0);
        x.read(3, 0, 0).is(0);
    }

    @Says("All volumes together have at most 300 pieces that were written")
    private static void room300ComesBack(Run x) {
        x.full();
        x.trim(0, 99, 99).is(1);
        x.write(1, 100, 0, 1, 1).is(101);
        x.write(1, 101, 0, 1, 1).is(FULL);
        x.remove(2).is(100);
        x.write(1, 101, 0, 1, 1).is(102);
        x.pieces(-1).is(201);
    }

    @Says("(those that two have by a snapshot count twice)")
    private static void twice150(Run x) {
        x.withFirstPieces(0, 100);
        x.withFirstPieces(1, 50);
        x.snap(2, 0).is(100);
        x.pieces(-1).is(250);
        x.snap(3, 1).is(50);
        x.pieces(-1).is(300);
        x.write(1, 127, 0, 1, 1).is(FULL);
    }

    @Says("(those that two have by a snapshot count twice)")
    private static void twice151(Run x) {
        x.withFirstPieces(0, 100);
        x.withFirstPieces(1, 51);
        x.snap(2, 0).is(100);
        x.snap(3, 1).is(FULL);
        x.pieces(3).is(BAD);
        x.pieces(-1).is(251);
    }

    @Says("and 32 NOTES, 0 .. 255 each")
    private static void all32Notes(Run x) {
        for (int i = 0; i < 32; i++) {
            x.tell(i, 255 - i).is(0);
        }
        x.tell(32, 0).is(BAD);
        x.tell(-1, 0).is(BAD);
        for (int i = 0; i < 32; i++) {
            x.told(i).is(255 - i);
        }
        x.told(32).is(BAD);
        x.told(-1).is(BAD);
    }

    @Says("and 32 NOTES, 0 .. 255 each")
    private static void note0And255(Run x) {
        x.tell(5, 255).is(0);
        x.told(5).is(255);
        x.tell(5, 256).is(BAD);
        x.tell(5, -1).is(BAD);
        x.told(5).is(255);
        x.tell(5, 0).is(255);
        x.told(5).is(0);
    }

    @Says("KEPT is the same as it was when keep() went through last")
    private static void keptIsTheLast(Run x) {
        x.withPieces(0, 1);
        x.tell(0, 1).is(0);
        x.keep(0, 0).is(1);
        x.write(0, 2, 0, 128, 2).is(2);
        x.tell(0, 2).is(1);
        x.keep(0, 0).is(2);
        x.write(0, 3, 0, 128, 3).is(3);
        x.tell(0, 3).is(2);
        x.make(1).is(0);
        x.again(2);
        x.told(0).is(2);
        x.count(0).is(1);
        x.next(0, 2).is(2);
        x.next(0, 3).is(128);
    }

    @Says("KEPT is the same as it was when keep() went through last")
    private static void keptStaysBehindEveryChange(Run x) {
        x.withPieces(0, 0, 31, 32, 127);
        x.snap(1, 0).is(4);
        x.keep(0, 0).is(8);
        for (int round = 0; round < 20; round++) {
            x.write(0, 0, 0, 128, round).is(4);
            x.trim(1, 31, 127).is(3);
            x.remove(1).is(1);
            x.snap(1, 0).is(4);
            x.write(1, 32, 64, 64, round).is(4);
        }
        x.again(8);
        x.read(0, 0, 0).is(1);
        x.read(1, 32, 127).is(33);
        x.shared(1, 31).is(1);
    }

    @Says("at first no volume is there, all notes are 0, and that is kept.")
    private static void atFirst(Run x) {
        x.count(0).is(0);
        x.pieces(-1).is(0);
        for (int i = 0; i < 32; i++) {
            x.told(i).is(0);
        }
        x.withPieces(0, 0);
        x.tell(0, 1).is(0);
        x.again(0);
        x.count(0).is(0);
        x.told(0).is(0);
    }
}
