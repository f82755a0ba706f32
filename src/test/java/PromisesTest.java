/** Each promise of the document by itself: ordinary calls, its edges and wrong inputs. */
public final class PromisesTest {
    private static final int BAD = -1, OFF = -2, FULL = -3;
    private static final int[] FAR = {Integer.MIN_VALUE, -2, Integer.MAX_VALUE};
    private static final Due DUE = new Due();

    public static void main(String[] args) {
        constants();
        promise1NewObject();
        promise2Lay();
        promise3Make();
        promise4Snap();
        promise4SnapFull();
        promise5Remove();
        promise6Write();
        promise6WriteBad();
        promise6WriteFull();
        promise7Read();
        promise8Trim();
        promise9Pieces();
        promise10Next();
        promise11Shared();
        promise11SharedBehindPower();
        promise12Tell();
        promise13Told();
        promise14Keep();
        promise14KeepStopped();
        promise15Fail();
        promise16Mount();
        promise17Count();
        promise18Check();
        offBeforeBad();
        DUE.end();
    }

    private static void due(String call, long got, long want) {
        DUE.same(call, got, want);
    }

    private static void constants() {
        due("BAD", ThinPool.BAD, -1);
        due("OFF", ThinPool.OFF, -2);
        due("FULL", ThinPool.FULL, -3);
    }

    private static void dueEmpty(String when, ThinPool x) {
        due(when + ": count(0)", x.count(0), 0);
        due(when + ": count(1)", x.count(1), 0);
        due(when + ": pieces(-1)", x.pieces(-1), 0);
        for (int v = 0; v < 16; v++) {
            due(when + ": pieces(" + v + ")", x.pieces(v), BAD);
        }
        for (int i = 0; i < 32; i++) {
            due(when + ": told(" + i + ")", x.told(i), 0);
        }
        due(when + ": check()", x.check(), 0);
    }

    /** A volume 0 with the given pieces, each of them full of its number plus 1. */
    private static ThinPool withPieces(int... pieces) {
        ThinPool x = new ThinPool();
        x.make(0);
        for (int p : pieces) {
            x.write(0, p, 0, 128, p + 1);
        }
        return x;
    }

    /** Volumes 0 to 2 with 300 pieces together: 128, 128 and 44. */
    private static ThinPool full() {
        ThinPool x = new ThinPool();
        for (int i = 0; i < 300; i++) {
            x.make(i / 128);
            x.write(i / 128, i % 128, i % 100, 1 + i % 20, i % 256);
        }
        return x;
    }

    private static void promise1NewObject() {
        ThinPool x = new ThinPool();
        dueEmpty("new", x);
        due("new: mount()", x.mount(), BAD);
        x.fail();
        due("new, failed: mount()", x.mount(), 0);
        dueEmpty("new, mounted", x);
        ThinPool other = new ThinPool();
        x.make(0);
        due("another object: count(0)", other.count(0), 0);
    }

    private static void promise2Lay() {
        ThinPool x = withPieces(1, 2, 3);
        x.tell(31, 255);
        x.keep(0, 0);
        x.write(0, 9, 0, 1, 1);
        due("lay()", x.lay(), 0);
        dueEmpty("lay() with power on", x);
        x.fail();
        due("laid, failed: mount()", x.mount(), 0);
        dueEmpty("laid, failed, mounted", x);
        x.make(0);
        due("laid: read(0, 1, 0)", x.read(0, 1, 0), 0);
        x.write(0, 5, 0, 1, 1);
        x.keep(0, 0);
        x.keep(2, 1);
        due("lay() with power off", x.lay(), 0);
        dueEmpty("lay() with power off", x);
        due("lay(), mount()", x.mount(), BAD);
    }

    private static void promise3Make() {
        ThinPool x = new ThinPool();
        for (int v = 0; v < 16; v++) {
            due("make(" + v + ")", x.make(v), 0);
            due("make(" + v + ") again", x.make(v), BAD);
            due("pieces(" + v + ")", x.pieces(v), 0);
            due("next(" + v + ", 0)", x.next(v, 0), 128);
        }
        due("make(16)", x.make(16), BAD);
        due("make(-1)", x.make(-1), BAD);
        for (int v : FAR) {
            due("make(" + v + ")", x.make(v), BAD);
        }
        x.write(7, 3, 0, 128, 9);
        x.remove(7);
        due("make(7) behind remove", x.make(7), 0);
        due("made anew: pieces(7)", x.pieces(7), 0);
        due("made anew: read(7, 3, 0)", x.read(7, 3, 0), 0);
        due("make: check()", x.check(), 0);
    }

    private static void promise4Snap() {
        ThinPool x = withPieces(0, 64, 127);
        due("snap(15, 0)", x.snap(15, 0), 3);
        due("snap(15, 0) again", x.snap(15, 0), BAD);
        due("snap(0, 15)", x.snap(0, 15), BAD);
        due("snap(0, 0)", x.snap(0, 0), BAD);
        due("snap(1, 1)", x.snap(1, 1), BAD);
        due("snap(1, 2)", x.snap(1, 2), BAD);
        due("snap(16, 0)", x.snap(16, 0), BAD);
        due("snap(-1, 0)", x.snap(-1, 0), BAD);
        due("snap(1, 16)", x.snap(1, 16), BAD);
        due("snap(1, -1)", x.snap(1, -1), BAD);
        for (int v : FAR) {
            due("snap(" + v + ", 0)", x.snap(v, 0), BAD);
            due("snap(1, " + v + ")", x.snap(1, v), BAD);
        }
        due("snap: pieces(-1)", x.pieces(-1), 6);
        x.write(0, 64, 10, 1, 200);
        due("as it was: read(15, 64, 10)", x.read(15, 64, 10), 65);
        x.write(15, 127, 0, 1, 7);
        x.write(15, 5, 0, 1, 7);
        due("for itself: read(0, 127, 0)", x.read(0, 127, 0), 128);
        due("for itself: pieces(0)", x.pieces(0), 3);
        due("for itself: pieces(15)", x.pieces(15), 4);
        x.remove(0);
        due("its model gone: read(15, 64, 127)", x.read(15, 64, 127), 65);
        x.make(0);
        due("snap of an empty one", x.snap(3, 0), 0);
        due("snap: check()", x.check(), 0);
    }

    private static void promise4SnapFull() {
        ThinPool x = full();
        due("full: snap(3, 2)", x.snap(3, 2), FULL);
        due("full: snap(2, 2)", x.snap(2, 2), BAD);
        due("full: snap(3, 4)", x.snap(3, 4), BAD);
        x.make(9);
        due("full: snap(3, 9) of an empty one", x.snap(3, 9), 0);
        x.trim(0, 0, 42);
        due("43 less: snap(4, 2)", x.snap(4, 2), FULL);
        due("43 less: count(0)", x.count(0), 5);
        x.trim(0, 43, 43);
        due("44 less: snap(4, 2)", x.snap(4, 2), 44);
        due("44 less: pieces(-1)", x.pieces(-1), 300);
        due("snap full: check()", x.check(), 0);
    }

    private static void promise5Remove() {
        ThinPool x = withPieces(3, 4, 90);
        x.snap(1, 0);
        due("remove(0)", x.remove(0), 3);
        due("remove(0) again", x.remove(0), BAD);
        due("removed: read(0, 3, 0)", x.read(0, 3, 0), BAD);
        due("removed: count(0)", x.count(0), 1);
        due("removed: pieces(-1)", x.pieces(-1), 3);
        due("remove(16)", x.remove(16), BAD);
        due("remove(-1)", x.remove(-1), BAD);
        for (int v : FAR) {
            due("remove(" + v + ")", x.remove(v), BAD);
        }
        due("the other one: read(1, 90, 5)", x.read(1, 90, 5), 91);
        due("remove(1)", x.remove(1), 3);
        x.make(1);
        due("remove(1), empty", x.remove(1), 0);
        dueEmpty("all removed", x);
    }

    private static void promise6Write() {
        ThinPool x = new ThinPool();
        x.make(2);
        due("write(2, 0, 5, 3, 255)", x.write(2, 0, 5, 3, 255), 1);
        due("byte before", x.read(2, 0, 4), 0);
        due("first byte", x.read(2, 0, 5), 255);
        due("last byte", x.read(2, 0, 7), 255);
        due("byte behind", x.read(2, 0, 8), 0);
        due("write(2, 0, 6, 1, 1)", x.write(2, 0, 6, 1, 1), 1);
        due("byte left of it", x.read(2, 0, 5), 255);
        due("byte changed", x.read(2, 0, 6), 1);
        due("byte right of it", x.read(2, 0, 7), 255);
        due("write(2, 127, 127, 1, 9)", x.write(2, 127, 127, 1, 9), 2);
        due("very last byte", x.read(2, 127, 127), 9);
        due("write(2, 32, 0, 128, 0), only 0s", x.write(2, 32, 0, 128, 0), 3);
        due("only 0s are written", x.next(2, 1), 32);
        for (int p = 0; p < 128; p++) {
            x.write(2, p, p, 1, p + 100);
        }
        for (int p = 0; p < 128; p++) {
            due("read(2, " + p + ", " + p + ")", x.read(2, p, p), p + 100);
        }
        due("write: check()", x.check(), 0);
    }

    private static void promise6WriteBad() {
        ThinPool x = withPieces(1);
        due("write(1, ..)", x.write(1, 0, 0, 1, 1), BAD);
        due("write(16, ..)", x.write(16, 0, 0, 1, 1), BAD);
        due("write(-1, ..)", x.write(-1, 0, 0, 1, 1), BAD);
        due("piece 128", x.write(0, 128, 0, 1, 1), BAD);
        due("piece -1", x.write(0, -1, 0, 1, 1), BAD);
        due("byte 128", x.write(0, 0, 128, 1, 1), BAD);
        due("byte -1", x.write(0, 0, -1, 1, 1), BAD);
        due("byte -1, two", x.write(0, 0, -1, 2, 1), BAD);
        due("no byte", x.write(0, 0, 0, 0, 1), BAD);
        due("129 bytes", x.write(0, 0, 0, 129, 1), BAD);
        due("-1 bytes", x.write(0, 0, 5, -1, 1), BAD);
        due("128 bytes from 1 on", x.write(0, 0, 1, 128, 1), BAD);
        due("2 bytes from 127 on", x.write(0, 0, 127, 2, 1), BAD);
        due("value 256", x.write(0, 0, 0, 1, 256), BAD);
        due("value -1", x.write(0, 0, 0, 1, -1), BAD);
        for (int far : FAR) {
            due("far volume", x.write(far, 0, 0, 1, 1), BAD);
            due("far piece", x.write(0, far, 0, 1, 1), BAD);
            due("far byte", x.write(0, 0, far, 1, 1), BAD);
            due("far byte, 128", x.write(0, 0, far, 128, 1), BAD);
            due("far number", x.write(0, 0, 1, far, 1), BAD);
            due("far value", x.write(0, 0, 0, 1, far), BAD);
        }
        due("nothing was written", x.pieces(-1), 1);
    }

    private static void promise6WriteFull() {
        ThinPool x = full();
        due("full: pieces(-1)", x.pieces(-1), 300);
        due("full: a new piece", x.write(2, 44, 0, 1, 1), FULL);
        due("full: not written", x.next(2, 44), 128);
        due("full: a written piece", x.write(2, 43, 0, 1, 77), 44);
        due("full: it is written", x.read(2, 43, 0), 77);
        due("full: BAD first", x.write(2, 44, 0, 129, 1), BAD);
        x.trim(0, 5, 5);
        due("299: a new piece", x.write(2, 44, 0, 1, 1), 45);
        due("300 again", x.write(0, 5, 0, 1, 1), FULL);
        due("full: keep(0, 0)", x.keep(0, 0), 300);
        due("full: kept, a written piece", x.write(0, 4, 0, 1, 3), 127);
        due("full: check()", x.check(), 0);
    }

    private static void promise7Read() {
        ThinPool x = withPieces(10);
        due("read(0, 10, 0)", x.read(0, 10, 0), 11);
        due("read(0, 10, 127)", x.read(0, 10, 127), 11);
        due("read(0, 11, 0), empty", x.read(0, 11, 0), 0);
        x.write(0, 10, 64, 1, 255);
        due("read(0, 10, 64)", x.read(0, 10, 64), 255);
        due("read(0, 10, 128)", x.read(0, 10, 128), BAD);
        due("read(0, 10, -1)", x.read(0, 10, -1), BAD);
        due("read(0, 128, 0)", x.read(0, 128, 0), BAD);
        due("read(0, -1, 0)", x.read(0, -1, 0), BAD);
        due("read(1, 0, 0)", x.read(1, 0, 0), BAD);
        due("read(16, 0, 0)", x.read(16, 0, 0), BAD);
        due("read(-1, 0, 0)", x.read(-1, 0, 0), BAD);
        for (int far : FAR) {
            due("read far volume", x.read(far, 0, 0), BAD);
            due("read far piece", x.read(0, far, 0), BAD);
            due("read far byte", x.read(0, 10, far), BAD);
        }
    }

    private static void promise8Trim() {
        ThinPool x = withPieces(0, 31, 32, 63, 64, 127);
        x.snap(1, 0);
        due("trim(0, 31, 32)", x.trim(0, 31, 32), 2);
        due("trim(0, 31, 32) again", x.trim(0, 31, 32), 0);
        due("left of it", x.read(0, 0, 0), 1);
        due("trimmed", x.read(0, 31, 0), 0);
        due("right of it", x.read(0, 63, 0), 64);
        due("next(0, 1)", x.next(0, 1), 63);
        due("the snapshot: pieces(1)", x.pieces(1), 6);
        due("the snapshot: read(1, 31, 0)", x.read(1, 31, 0), 32);
        x.write(0, 31, 5, 1, 4);
        due("written anew: read(0, 31, 0)", x.read(0, 31, 0), 0);
        due("trim(0, 0, 0)", x.trim(0, 0, 0), 1);
        due("trim(0, 127, 127)", x.trim(0, 127, 127), 1);
        due("trim(0, 0, 127)", x.trim(0, 0, 127), 3);
        due("all trimmed: pieces(0)", x.pieces(0), 0);
        due("all trimmed: count(0)", x.count(0), 2);
        due("trim(1, 5, 4)", x.trim(1, 5, 4), BAD);
        due("trim(1, 0, 128)", x.trim(1, 0, 128), BAD);
        due("trim(1, -1, 5)", x.trim(1, -1, 5), BAD);
        due("trim(1, 128, 128)", x.trim(1, 128, 128), BAD);
        due("trim(2, 0, 1)", x.trim(2, 0, 1), BAD);
        due("trim(16, 0, 1)", x.trim(16, 0, 1), BAD);
        for (int far : FAR) {
            due("trim far volume", x.trim(far, 0, 1), BAD);
            due("trim from far", x.trim(1, far, 1), BAD);
            due("trim to far", x.trim(1, 0, far), BAD);
        }
        due("trim: pieces(1)", x.pieces(1), 6);
        due("trim: check()", x.check(), 0);
    }

    private static void promise9Pieces() {
        ThinPool x = withPieces(1, 2);
        x.make(5);
        x.write(5, 1, 0, 1, 0);
        x.snap(6, 0);
        due("pieces(0)", x.pieces(0), 2);
        due("pieces(5)", x.pieces(5), 1);
        due("pieces(-1)", x.pieces(-1), 5);
        due("pieces(1)", x.pieces(1), BAD);
        due("pieces(16)", x.pieces(16), BAD);
        for (int far : FAR) {
            due("pieces(" + far + ")", x.pieces(far), BAD);
        }
    }

    private static void promise10Next() {
        ThinPool x = withPieces(3, 40, 41, 126);
        due("next(0, 0)", x.next(0, 0), 3);
        due("next(0, 3)", x.next(0, 3), 3);
        due("next(0, 4)", x.next(0, 4), 40);
        due("next(0, 41)", x.next(0, 41), 41);
        due("next(0, 42)", x.next(0, 42), 126);
        due("next(0, 127)", x.next(0, 127), 128);
        x.write(0, 127, 0, 1, 0);
        due("next(0, 127), written", x.next(0, 127), 127);
        due("next(0, 128)", x.next(0, 128), BAD);
        due("next(0, -1)", x.next(0, -1), BAD);
        due("next(1, 0)", x.next(1, 0), BAD);
        due("next(16, 0)", x.next(16, 0), BAD);
        for (int far : FAR) {
            due("next far volume", x.next(far, 0), BAD);
            due("next far piece", x.next(0, far), BAD);
        }
    }

    private static void promise11Shared() {
        ThinPool x = withPieces(0, 1, 2);
        due("alone", x.shared(0, 0), 0);
        x.make(5);
        x.write(5, 0, 0, 128, 1);
        due("the same bytes by chance", x.shared(5, 0), 0);
        x.snap(1, 0);
        x.snap(2, 1);
        due("of a snapshot's snapshot", x.shared(2, 1), 1);
        x.remove(1);
        due("by one that is there no more", x.shared(0, 1), 1);
        due("by one that is there no more, too", x.shared(2, 1), 1);
        x.write(2, 1, 0, 128, 2);
        due("the same bytes written again", x.shared(0, 1), 0);
        due("the same bytes written again, too", x.shared(2, 1), 0);
        due("its neighbour", x.shared(2, 2), 1);
        x.trim(0, 2, 2);
        due("trimmed in the other one", x.shared(2, 2), 0);
        due("empty", x.shared(0, 2), 0);
        due("empty in all", x.shared(0, 100), 0);
        x.remove(2);
        due("the only one left", x.shared(0, 0), 0);
        due("shared(3, 0)", x.shared(3, 0), BAD);
        due("shared(16, 0)", x.shared(16, 0), BAD);
        due("shared(0, 128)", x.shared(0, 128), BAD);
        due("shared(0, -1)", x.shared(0, -1), BAD);
        for (int far : FAR) {
            due("shared far volume", x.shared(far, 0), BAD);
            due("shared far piece", x.shared(0, far), BAD);
        }
    }

    private static void promise11SharedBehindPower() {
        ThinPool x = withPieces(0, 1);
        x.snap(1, 0);
        x.write(1, 1, 0, 1, 2);
        x.keep(0, 0);
        due("kept: shared(0, 0)", x.shared(0, 0), 1);
        x.write(0, 0, 0, 1, 1);
        due("written since: shared(0, 0)", x.shared(0, 0), 0);
        x.fail();
        x.mount();
        due("as when it was kept: shared(0, 0)", x.shared(0, 0), 1);
        due("as when it was kept: shared(1, 0)", x.shared(1, 0), 1);
        due("as when it was kept: shared(0, 1)", x.shared(0, 1), 0);
    }

    private static void promise12Tell() {
        ThinPool x = new ThinPool();
        for (int i = 0; i < 32; i++) {
            due("tell(" + i + ", " + (255 - i) + ")", x.tell(i, 255 - i), 0);
        }
        for (int i = 0; i < 32; i++) {
            due("tell(" + i + ", 1)", x.tell(i, 1), 255 - i);
        }
        due("tell(0, 256)", x.tell(0, 256), BAD);
        due("tell(0, -1)", x.tell(0, -1), BAD);
        due("tell(32, 0)", x.tell(32, 0), BAD);
        due("tell(-1, 0)", x.tell(-1, 0), BAD);
        for (int far : FAR) {
            due("tell(" + far + ", 0)", x.tell(far, 0), BAD);
            due("tell(0, " + far + ")", x.tell(0, far), BAD);
        }
        due("as it was", x.told(0), 1);
        x.keep(0, 0);
        due("tell(4, 0)", x.tell(4, 0), 1);
        x.fail();
        x.mount();
        due("as it was kept", x.told(4), 1);
        due("notes are no volumes", x.count(0), 0);
        due("tell: check()", x.check(), 0);
    }

    private static void promise13Told() {
        ThinPool x = new ThinPool();
        x.tell(0, 255);
        x.tell(31, 128);
        due("told(0)", x.told(0), 255);
        due("told(1)", x.told(1), 0);
        due("told(30)", x.told(30), 0);
        due("told(31)", x.told(31), 128);
        due("told(32)", x.told(32), BAD);
        due("told(-1)", x.told(-1), BAD);
        for (int far : FAR) {
            due("told(" + far + ")", x.told(far), BAD);
        }
    }

    private static void promise14Keep() {
        ThinPool x = withPieces(0, 50);
        due("keep(0, 0)", x.keep(0, 0), 2);
        x.snap(1, 0);
        x.tell(2, 3);
        due("bits do not count", x.keep(0, 0x1B), 4);
        x.write(0, 0, 0, 128, 99);
        x.make(2);
        x.tell(2, 4);
        due("keep(3, 0)", x.keep(3, 0), BAD);
        due("keep(-1, 0)", x.keep(-1, 0), BAD);
        for (int far : FAR) {
            due("keep(" + far + ", 0)", x.keep(far, 0), BAD);
        }
        due("BAD leaves power on", x.count(1), 2);
        x.fail();
        due("mount()", x.mount(), 4);
        due("as kept: read(0, 0, 0)", x.read(0, 0, 0), 1);
        due("as kept: count(0)", x.count(0), 2);
        due("as kept: told(2)", x.told(2), 3);
        due("nothing changed: keep(0, 0)", x.keep(0, 0), 4);
        due("keep: check()", x.check(), 0);
    }

    /** Many blocks under way, so that some are behind the 32nd, with all kinds of bits. */
    private static void promise14KeepStopped() {
        long[] manyBits = {0, 1, 2, 3, -1, 0x5555555555555555L, 0xAAAAAAAAAAAAAAAAL, 0x1B1B1B1B1B1B1B1BL,
            Long.MIN_VALUE, Long.MAX_VALUE, 4, 0x5555555555555554L, 0x5555555555555556L};
        for (int stop = 1; stop <= 2; stop++) {
            for (long bits : manyBits) {
                for (int keeps = 1; keeps <= 2; keeps++) {
                    stopOnce(stop, bits, keeps);
                }
            }
        }
    }

    private static void stopOnce(int stop, long bits, int keeps) {
        String run = "keep(" + stop + ", " + bits + ") behind " + keeps + ": ";
        ThinPool x = withPieces(0, 1, 33);
        x.snap(1, 0);
        x.tell(0, 10);
        for (int i = 0; i < keeps; i++) {
            x.keep(0, 0);
        }
        x.write(0, 0, 0, 128, 200);
        x.remove(1);
        x.make(2);
        for (int p = 40; p < 90; p++) {
            x.write(2, p, 0, 128, p);
        }
        x.tell(0, 20);
        due(run + "keep", x.keep(stop, bits), OFF);
        boolean counts = stop == 2 && ((bits & 3) == 1 || (bits & 3) == 2);
        due(run + "mount()", x.mount(), counts ? 53 : 6);
        due(run + "count(1)", x.count(1), counts ? keeps + 1 : keeps);
        due(run + "told(0)", x.told(0), counts ? 20 : 10);
        due(run + "read(0, 0, 127)", x.read(0, 0, 127), counts ? 200 : 1);
        due(run + "read(0, 33, 64)", x.read(0, 33, 64), 34);
        due(run + "read(1, 0, 0)", x.read(1, 0, 0), counts ? BAD : 1);
        for (int p = 40; p < 90; p++) {
            due(run + "first half", x.read(2, p, 0), counts ? p : BAD);
            due(run + "last half", x.read(2, p, 127), counts ? p : BAD);
        }
        due(run + "check()", x.check(), 0);
        x.write(0, 2, 0, 1, 1);
        due(run + "keep(0, 0) behind it", x.keep(0, 0), counts ? 54 : 7);
        x.fail();
        due(run + "mount() behind that", x.mount(), counts ? 54 : 7);
        due(run + "check() at the end", x.check(), 0);
    }

    private static void promise15Fail() {
        ThinPool x = withPieces(7);
        due("fail()", x.fail(), 0);
        due("fail() again", x.fail(), OFF);
        due("nothing was kept: mount()", x.mount(), 0);
        due("nothing was kept: count(0)", x.count(0), 0);
        due("fail: count(1)", x.count(1), 0);
    }

    private static void promise16Mount() {
        ThinPool x = withPieces(7, 8);
        x.snap(1, 0);
        due("mount() with power on", x.mount(), BAD);
        due("and nothing is lost", x.pieces(-1), 4);
        x.keep(0, 0);
        x.trim(1, 0, 127);
        x.fail();
        due("mount()", x.mount(), 4);
        due("mount() again", x.mount(), BAD);
        due("mounted: pieces(1)", x.pieces(1), 2);
        due("mounted: read(1, 8, 127)", x.read(1, 8, 127), 9);
    }

    private static void promise17Count() {
        ThinPool x = new ThinPool();
        x.make(0);
        x.make(15);
        x.snap(7, 0);
        due("count(0)", x.count(0), 3);
        x.remove(0);
        due("count(0), one removed", x.count(0), 2);
        x.keep(0, 0);
        x.keep(0, 0);
        due("count(1)", x.count(1), 2);
        x.keep(1, -1);
        x.mount();
        due("count(1), stopped in stage 1", x.count(1), 2);
        x.keep(2, 3);
        x.mount();
        due("count(1), the head does not count", x.count(1), 2);
        x.keep(2, 2);
        x.mount();
        due("count(1), the head counts", x.count(1), 3);
        x.lay();
        due("count(1) behind lay()", x.count(1), 0);
        due("count(2)", x.count(2), BAD);
        due("count(-1)", x.count(-1), BAD);
        for (int far : FAR) {
            due("count(" + far + ")", x.count(far), BAD);
        }
    }

    private static void promise18Check() {
        ThinPool x = full();
        due("full: check()", x.check(), 0);
        x.keep(0, 0);
        x.remove(1);
        due("one removed: check()", x.check(), 0);
        x.snap(1, 0);
        due("one snapped: check()", x.check(), 0);
        x.trim(0, 10, 100);
        due("some trimmed: check()", x.check(), 0);
        x.keep(1, 0x1B1B1B1B1B1B1B1BL);
        x.mount();
        due("power lost: check()", x.check(), 0);
    }

    private static void offBeforeBad() {
        ThinPool x = withPieces(0);
        x.keep(0, 0);
        x.fail();
        for (int i : new int[] {0, -1, 200, Integer.MAX_VALUE, Integer.MIN_VALUE}) {
            due("off: make", x.make(i), OFF);
            due("off: snap", x.snap(i, i), OFF);
            due("off: remove", x.remove(i), OFF);
            due("off: write", x.write(i, i, i, i, i), OFF);
            due("off: read", x.read(i, i, i), OFF);
            due("off: trim", x.trim(i, i, i), OFF);
            due("off: pieces", x.pieces(i), OFF);
            due("off: next", x.next(i, i), OFF);
            due("off: shared", x.shared(i, i), OFF);
            due("off: tell", x.tell(i, i), OFF);
            due("off: told", x.told(i), OFF);
            due("off: keep", x.keep(i, i), OFF);
            due("off: count", x.count(i), OFF);
        }
        due("off: fail", x.fail(), OFF);
        due("off: check", x.check(), OFF);
        due("off: mount", x.mount(), 1);
    }
}
