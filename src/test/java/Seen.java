import java.util.ArrayList;
import java.util.List;

/** What can be read of an object, a line for each call, with indices past every bound. */
final class Seen {
    private Seen() {
    }

    static String line(String name, long answer, long... args) {
        StringBuilder text = new StringBuilder(name).append('(');
        for (int i = 0; i < args.length; i++) {
            text.append(i == 0 ? "" : ", ").append(args[i]);
        }
        return text.append(") answered ").append(answer).toString();
    }

    static List<String> all(GrandClock x) {
        List<String> lines = state(x);
        lines.addAll(order(x));
        return lines;
    }

    /** All but the order of the default datasets, which setPriority and setQuality change at once. */
    static List<String> state(GrandClock x) {
        List<String> lines = new ArrayList<>();
        for (int c = -1; c <= 8; c++) {
            lines.add(line("getGrandmaster", x.getGrandmaster(c), c));
            lines.add(line("getParent", x.getParent(c), c));
            lines.add(line("getStepsRemoved", x.getStepsRemoved(c), c));
            lines.add(line("getTime", x.getTime(c), c));
            for (int which = -1; which <= 9; which++) {
                lines.add(line("getMeasure", x.getMeasure(c, which), c, which));
            }
            for (int link = -2; link <= 16; link++) {
                addEnd(lines, x, c, link);
            }
        }
        return lines;
    }

    static List<String> order(GrandClock x) {
        List<String> lines = new ArrayList<>();
        for (int a = -1; a <= 8; a++) {
            for (int b = -1; b <= 8; b++) {
                lines.add(line("compareDatasets", x.compareDatasets(a, b), a, b));
            }
        }
        return lines;
    }

    private static void addEnd(List<String> lines, GrandClock x, int c, int link) {
        lines.add(line("getPortState", x.getPortState(c, link), c, link));
        for (int field = -1; field <= 10; field++) {
            lines.add(line("getAnnounce", x.getAnnounce(c, link, field), c, link, field));
        }
    }
}
