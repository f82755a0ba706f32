import java.lang.reflect.Field;

/** Lets a test see the blocks, in memory or on the medium, that the class holds privately. */
final class Inside {
    static final int WORDS = 16;

    private Inside() {
    }

    /** The words of all blocks, 16 for each; name is memory or medium. */
    static long[] words(ThinPool x, String name) {
        try {
            Field field = ThinPool.class.getDeclaredField(name);
            field.setAccessible(true);
            Object image = field.get(x);
            Field words = image.getClass().getDeclaredField("words");
            words.setAccessible(true);
            return (long[]) words.get(image);
        } catch (ReflectiveOperationException e) {
            throw new IllegalStateException(e);
        }
    }
}
