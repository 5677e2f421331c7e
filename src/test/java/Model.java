import java.util.ArrayList;
import java.util.Arrays;
import java.util.List;

/**
 * The document once more, written for reading and with nothing in common with the
 * program: objects, lists, and a copy of every start-of-step value that a phase reads.
 */
final class Model {
    static final class Clock {
        int[] dataset;
        int drift;
        long time;
        long adjust;
        long integral;
        int[] vector;
        int parent = -1;
        Link parentLink;
        long[] last = new long[6];
        long count;
        boolean measured;
        long startTime;
    }

    static final class Link {
        int number;
        boolean up = true;
        End atA;
        End atB;
    }

    static final class End {
        int clock;
        Link link;
        End other;
        long delayToOther;
        int state = GrandClock.MASTER;
        int[] store;
        int age;
    }

    final List<Clock> clocks = new ArrayList<>();
    final List<Link> links = new ArrayList<>();
    private final int capacity;
    private final int timeout;

    Model(int clocks, int links, int timeout) {
        for (int c = 0; c < limit(clocks, 2, 8); c++) {
            Clock clock = new Clock();
            clock.dataset = new int[] {128, 248, 254, 65535, 128, c};
            clock.vector = own(clock, c);
            this.clocks.add(clock);
        }
        this.capacity = (int) limit(links, 1, 16);
        this.timeout = (int) limit(timeout, 1, 4);
    }

    private static long limit(long v, long lo, long hi) {
        return Math.max(lo, Math.min(hi, v));
    }

    private static int[] own(Clock clock, int c) {
        int[] vector = Arrays.copyOf(clock.dataset, 8);
        vector[7] = c;
        return vector;
    }

    private Clock clock(int c) {
        return c >= 0 && c < clocks.size() ? clocks.get(c) : null;
    }

    private Link link(int number) {
        return number >= 0 && number < links.size() ? links.get(number) : null;
    }

    private End end(int c, int number) {
        Link link = link(number);
        if (clock(c) == null || link == null) {
            return null;
        }
        return link.atA.clock == c ? link.atA : link.atB.clock == c ? link.atB : null;
    }

    private List<End> upEnds(int c) {
        List<End> ends = new ArrayList<>();
        for (Link link : links) {
            End end = end(c, link.number);
            if (link.up && end != null) {
                ends.add(end);
            }
        }
        return ends;
    }

    boolean setPriority(int c, int p1, int p2) {
        Clock clock = clock(c);
        if (clock != null) {
            clock.dataset[0] = (int) limit(p1, 0, 255);
            clock.dataset[4] = (int) limit(p2, 0, 255);
        }
        return clock != null;
    }

    boolean setQuality(int c, int cls, int acc, int var) {
        Clock clock = clock(c);
        if (clock != null) {
            clock.dataset[1] = (int) limit(cls, 0, 255);
            clock.dataset[2] = (int) limit(acc, 0, 255);
            clock.dataset[3] = (int) limit(var, 0, 65535);
        }
        return clock != null;
    }

    boolean setDrift(int c, int ppb) {
        Clock clock = clock(c);
        if (clock != null) {
            clock.drift = (int) limit(ppb, -100000, 100000);
        }
        return clock != null;
    }

    boolean setTime(int c, long t) {
        Clock clock = clock(c);
        if (clock != null) {
            clock.time = limit(t, 0, 1000000000000000000L);
        }
        return clock != null;
    }

    int addLink(int a, int b, int dab, int dba) {
        if (clock(a) == null || clock(b) == null || a == b || links.size() >= capacity) {
            return -1;
        }
        for (Link link : links) {
            if (end(a, link.number) != null && end(b, link.number) != null) {
                return -1;
            }
        }
        Link link = new Link();
        link.number = links.size();
        link.atA = newEnd(a, link, dab);
        link.atB = newEnd(b, link, dba);
        link.atA.other = link.atB;
        link.atB.other = link.atA;
        links.add(link);
        return link.number;
    }

    private static End newEnd(int clock, Link link, int delay) {
        End end = new End();
        end.clock = clock;
        end.link = link;
        end.delayToOther = limit(delay, 0, 10000000);
        return end;
    }

    boolean setLinkUp(int number, boolean up) {
        Link link = link(number);
        if (link != null && link.up != up) {
            link.up = up;
            for (End end : List.of(link.atA, link.atB)) {
                end.state = up ? GrandClock.MASTER : GrandClock.DISABLED;
                end.store = null;
                end.age = 0;
            }
        }
        return link != null;
    }

    int run(int steps) {
        int n = (int) limit(steps, 0, 64);
        for (int i = 0; i < n; i++) {
            for (Clock clock : clocks) {
                clock.startTime = clock.time;
            }
            for (int c = 0; c < clocks.size(); c++) {
                measure(c);
                servo(clocks.get(c));
            }
            for (Clock clock : clocks) {
                clock.time += 1000000000L + clock.drift + clock.adjust;
            }
            for (Link link : links) {
                if (link.up) {
                    announce(link.atA, link.atB);
                    announce(link.atB, link.atA);
                }
            }
            for (int c = 0; c < clocks.size(); c++) {
                best(c);
            }
        }
        return n;
    }

    private void measure(int c) {
        Clock clock = clocks.get(c);
        clock.measured = false;
        if (clock.parentLink == null || !clock.parentLink.up) {
            return;
        }
        End end = end(c, clock.parentLink.number);
        if (end.state != GrandClock.SLAVE || end.other.state != GrandClock.MASTER) {
            return;
        }
        clock.measured = true;
        clock.count++;
        long there = clocks.get(end.other.clock).startTime;
        long t2 = clock.startTime + end.other.delayToOther;
        long t4 = there + end.other.delayToOther + end.delayToOther;
        clock.last = new long[] {(t2 - there - t4 + t2) / 2, (t4 - there) / 2, there, t2, t2, t4};
    }

    private static void servo(Clock clock) {
        long o = clock.last[0];
        if (clock.measured && Math.abs(o) > 1000000L) {
            clock.time -= o;
        } else if (clock.measured) {
            clock.integral = limit(clock.integral - o / 8, -500000, 500000);
            clock.adjust = limit(clock.integral - o / 2, -500000, 500000);
        }
    }

    private void announce(End from, End to) {
        int[] message = from.state == GrandClock.MASTER ? clocks.get(from.clock).vector : null;
        if (message != null && message[6] <= 6 && message[5] != to.clock) {
            to.store = message.clone();
            to.age = 0;
        } else if (to.store != null) {
            to.age++;
            if (to.age == timeout) {
                to.store = null;
                to.age = 0;
            }
        }
    }

    private void best(int c) {
        Clock clock = clocks.get(c);
        End best = null;
        for (End end : upEnds(c)) {
            if (end.store != null && (best == null || Arrays.compare(end.store, best.store) < 0)) {
                best = end;
            }
        }
        if (best != null && Arrays.compare(clock.dataset, Arrays.copyOf(best.store, 6)) < 0) {
            best = null;
        }
        clock.vector = best == null ? own(clock, c) : best.store.clone();
        clock.parent = -1;
        clock.parentLink = null;
        if (best != null) {
            clock.vector[6]++;
            clock.vector[7] = c;
            clock.parent = best.store[7];
            clock.parentLink = best.link;
        }
        for (End end : upEnds(c)) {
            boolean better = end.store != null && Arrays.compare(end.store, clock.vector) < 0;
            end.state = best != null && better ? GrandClock.PASSIVE : GrandClock.MASTER;
        }
        if (best != null) {
            best.state = GrandClock.SLAVE;
        }
    }

    int getPortState(int c, int number) {
        End end = end(c, number);
        return end == null ? -1 : end.state;
    }

    int getGrandmaster(int c) {
        return clock(c) == null ? -1 : clock(c).vector[5];
    }

    int getParent(int c) {
        return clock(c) == null ? -1 : clock(c).parent;
    }

    int getStepsRemoved(int c) {
        return clock(c) == null ? -1 : clock(c).vector[6];
    }

    long getTime(int c) {
        return clock(c) == null ? 0 : clock(c).time;
    }

    long getMeasure(int c, int which) {
        if (clock(c) == null || which < 0 || which > 8) {
            return 0;
        }
        long[] after = {clock(c).adjust, clock(c).integral, clock(c).count};
        return which < 6 ? clock(c).last[which] : after[which - 6];
    }

    int getAnnounce(int c, int number, int field) {
        if (clock(c) == null || field < 0 || field > 9) {
            return -1;
        }
        if (number == -1) {
            return field(clock(c).vector, 0, field);
        }
        End end = end(c, number);
        return end == null ? -1 : field(end.store, end.age, field);
    }

    private static int field(int[] vector, int age, int field) {
        if (vector == null) {
            return 0;
        }
        int[] fields = {1, vector[5], vector[6], age, vector[7], vector[0], vector[1], vector[2], vector[3], vector[4]};
        return fields[field];
    }

    int compareDatasets(int a, int b) {
        if (clock(a) == null || clock(b) == null) {
            return 0;
        }
        return Integer.signum(Arrays.compare(clock(a).dataset, clock(b).dataset));
    }
}
