import java.lang.reflect.Field;
import java.lang.reflect.Member;
import java.lang.reflect.Modifier;
import java.util.ArrayList;
import java.util.Arrays;
import java.util.Collections;
import java.util.List;

/** The public face: the constants, the constructor and the methods, and no other member that others can see. */
public final class FaceTest {
    private static final String[] CONSTANTS = {
        "int NO_PORT = -1", "int DISABLED = 0", "int MASTER = 1", "int SLAVE = 2", "int PASSIVE = 3",
        "int F_VALID = 0", "int F_GM = 1", "int F_STEPS = 2", "int F_AGE = 3", "int F_SENDER = 4",
        "int F_PRIORITY1 = 5", "int F_CLASS = 6", "int F_ACCURACY = 7", "int F_VARIANCE = 8", "int F_PRIORITY2 = 9",
        "int M_OFFSET = 0", "int M_DELAY = 1", "int M_T1 = 2", "int M_T2 = 3", "int M_T3 = 4", "int M_T4 = 5",
        "int M_ADJUST = 6", "int M_INTEGRAL = 7", "int M_COUNT = 8",
        "long NS_PER_STEP = 1000000000", "long STEP_LIMIT = 1000000", "long MAX_ADJUST = 500000",
        "int MAX_DRIFT = 100000", "int MAX_DELAY = 10000000", "int MAX_ACCEPT_STEPS = 6", "int MAX_RUN = 64",
        "long MAX_TIME = 1000000000000000000",
    };
    private static final String[] METHODS = {
        "public boolean GrandClock.setPriority(int,int,int)",
        "public boolean GrandClock.setQuality(int,int,int,int)",
        "public boolean GrandClock.setDrift(int,int)",
        "public boolean GrandClock.setTime(int,long)",
        "public int GrandClock.addLink(int,int,int,int)",
        "public boolean GrandClock.setLinkUp(int,boolean)",
        "public int GrandClock.run(int)",
        "public int GrandClock.getPortState(int,int)",
        "public int GrandClock.getGrandmaster(int)",
        "public int GrandClock.getParent(int)",
        "public int GrandClock.getStepsRemoved(int)",
        "public long GrandClock.getTime(int)",
        "public long GrandClock.getMeasure(int,int)",
        "public int GrandClock.getAnnounce(int,int,int)",
        "public int GrandClock.compareDatasets(int,int)",
    };

    public static void main(String[] args) throws IllegalAccessException {
        Due due = new Due();
        due.that(GrandClock.class.toGenericString().equals("public final class GrandClock"), "a public final class");
        due.that(GrandClock.class.getSuperclass() == Object.class, "no class above it");
        due.that(GrandClock.class.getInterfaces().length == 0, "no interface");
        due.same(visible(GrandClock.class.getDeclaredConstructors()),
            List.of("public GrandClock(int,int,int)"), "the constructor");
        due.same(visible(GrandClock.class.getDeclaredMethods()), sorted(METHODS), "the methods");
        due.same(constants(), sorted(CONSTANTS), "the constants");
        due.end();
    }

    private static List<String> sorted(String[] lines) {
        List<String> list = new ArrayList<>(Arrays.asList(lines));
        Collections.sort(list);
        return list;
    }

    private static List<String> visible(Member[] members) {
        List<String> lines = new ArrayList<>();
        for (Member member : members) {
            if (!Modifier.isPrivate(member.getModifiers())) {
                lines.add(member.toString());
            }
        }
        Collections.sort(lines);
        return lines;
    }

    private static List<String> constants() throws IllegalAccessException {
        List<String> lines = new ArrayList<>();
        for (Field field : GrandClock.class.getDeclaredFields()) {
            if (!Modifier.isPrivate(field.getModifiers())) {
                boolean constant = field.toString().startsWith("public static final ");
                lines.add(field.getType() + " " + field.getName() + " = " + (constant ? field.get(null) : "no constant"));
            }
        }
        Collections.sort(lines);
        return lines;
    }
}
