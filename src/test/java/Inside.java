import java.lang.reflect.Field;

/**
 * Puts a clock at a time that setTime does not take and that steps reach only after
 * thousands of millions of them. It looks for the number that setTime has just put
 * somewhere, so it needs no name of a private field.
 */
final class Inside {
    private static final long MARK = 987654321012345678L;

    private Inside() {
    }

    static void setTime(GrandClock x, int c, long t) throws IllegalAccessException {
        x.setTime(c, MARK);
        for (Field field : GrandClock.class.getDeclaredFields()) {
            if (field.getType() == long[].class) {
                field.setAccessible(true);
                replaceMark((long[]) field.get(x), t);
            }
        }
    }

    private static void replaceMark(long[] cells, long t) {
        for (int i = 0; i < cells.length; i++) {
            if (cells[i] == MARK) {
                cells[i] = t;
            }
        }
    }
}
