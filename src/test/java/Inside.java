import java.lang.reflect.Field;

/**
 * Puts numbers into an object that no 512 calls bring there: MEN stay below 600, BARNS below 100 and
 * WEEKS below 512 by calls, but the document tells what happens above. By the names of its fields.
 */
final class Inside {
    private Inside() {
    }

    private static Object of(Object owner, String name) {
        try {
            Field field = owner.getClass().getDeclaredField(name);
            field.setAccessible(true);
            return field.get(owner);
        } catch (ReflectiveOperationException e) {
            throw new IllegalStateException("SunTable holds its state otherwise now: mend Inside", e);
        }
    }

    private static Object state(SunTable x) {
        return of(of(x, "now"), "state");
    }

    static void men(SunTable x, int land, int men) {
        ((int[]) of(state(x), "men"))[land] = men;
    }

    static void sun(SunTable x, int land, int sun) {
        ((int[]) of(state(x), "sun"))[land] = sun;
    }

    static void barn(SunTable x, int land, int barn) {
        ((int[]) of(state(x), "barn"))[land] = barn;
    }

    static void week(SunTable x, int week) {
        try {
            Field field = state(x).getClass().getDeclaredField("week");
            field.setAccessible(true);
            field.setInt(state(x), week);
        } catch (ReflectiveOperationException e) {
            throw new IllegalStateException("SunTable holds its state otherwise now: mend Inside", e);
        }
    }
}
