import java.util.ArrayList;
import java.util.Arrays;
import java.util.List;

/** Long runs of calls, the same each time, held against a plain model that is written another way. */
public final class ModelTests {
    private static final int RUNS = 1000;
    private static final int CALLS = 512;
    private static final int MOST_REPORTS = 20;

    private static final int BAD = -1;
    private static final int FULL = -2;
    private static final int NONE = -3;

    private record Page(int rights, int tag) {}

    private record Area(int first, int length) {}

    /** Pages are objects or null, and every change makes a new array that is taken or dropped whole. */
    private static final class Model {
        private Page[] pages = new Page[64];

        private static boolean proper(long first, long length) {
            return length >= 1 && first >= 0 && first + length - 1 <= 63;
        }

        private static Page page(int kind) {
            return new Page(kind % 8, kind / 8);
        }

        private static List<Area> areasOf(Page[] pages) {
            List<Area> areas = new ArrayList<>();
            int first = 0;
            while (first < 64) {
                int end = first + 1;
                while (end < 64 && pages[first] != null && pages[first].equals(pages[end])) {
                    end++;
                }
                if (pages[first] != null) {
                    areas.add(new Area(first, end - first));
                }
                first = end;
            }
            return areas;
        }

        private int take(Page[] changed, int answer) {
            if (areasOf(changed).size() > 20) {
                return FULL;
            }
            pages = changed;
            return answer;
        }

        private int mappedIn(int first, int length) {
            return (int) Arrays.stream(pages, first, first + length).filter(p -> p != null).count();
        }

        private int put(int first, int length, Page page, int answer) {
            Page[] changed = pages.clone();
            Arrays.fill(changed, first, first + length, page);
            return take(changed, answer);
        }

        int map(int first, int length, int kind) {
            if (!proper(first, length) || kind < 0 || kind > 127) {
                return BAD;
            }
            return put(first, length, page(kind), mappedIn(first, length));
        }

        int place(int hint, int length, int kind) {
            if (length < 1 || hint < 0 || hint > 63 || kind < 0 || kind > 127) {
                return BAD;
            }
            int[] starts = {hint, 0};
            for (int start : starts) {
                for (int first = start; proper(first, length); first++) {
                    if (mappedIn(first, length) == 0) {
                        return put(first, length, page(kind), first);
                    }
                }
            }
            return NONE;
        }

        int free(int first, int length) {
            return proper(first, length) ? put(first, length, null, mappedIn(first, length)) : BAD;
        }

        int protect(int first, int length, int rights) {
            if (!proper(first, length) || rights < 0 || rights > 7) {
                return BAD;
            }
            if (mappedIn(first, length) != length) {
                return NONE;
            }
            Page[] changed = pages.clone();
            int others = 0;
            for (int i = first; i < first + length; i++) {
                others += pages[i].rights() == rights ? 0 : 1;
                changed[i] = new Page(rights, pages[i].tag());
            }
            return take(changed, others);
        }

        int rights(int page) {
            return page < 0 || page > 63 ? BAD : pages[page] == null ? NONE : pages[page].rights();
        }

        int tag(int page) {
            return page < 0 || page > 63 ? BAD : pages[page] == null ? NONE : pages[page].tag();
        }

        int areas() {
            return areasOf(pages).size();
        }

        int areaFirst(int i) {
            return i < 0 || i >= areas() ? NONE : areasOf(pages).get(i).first();
        }

        int areaLength(int i) {
            return i < 0 || i >= areas() ? NONE : areasOf(pages).get(i).length();
        }

        int areaOf(int page) {
            List<Area> areas = areasOf(pages);
            for (int i = 0; i < areas.size(); i++) {
                Area area = areas.get(i);
                if (page >= area.first() && page - area.first() < area.length()) {
                    return i;
                }
            }
            return NONE;
        }

        int mapped() {
            return mappedIn(0, 64);
        }

        int longestFree() {
            for (int length = 64; length > 0; length--) {
                for (int first = 0; first + length <= 64; first++) {
                    if (mappedIn(first, length) == 0) {
                        return length;
                    }
                }
            }
            return 0;
        }

        boolean allows(int first, int length, int rights) {
            return proper(first, length) && rights >= 0 && rights <= 7
                && Arrays.stream(pages, first, first + length).allMatch(p -> p != null && (rights & ~p.rights()) == 0);
        }

        int nextWith(int tag, int page) {
            for (int i = 0; i < 64; i++) {
                if (i >= page && pages[i] != null && pages[i].tag() == tag) {
                    return i;
                }
            }
            return NONE;
        }
    }

    /** A fixed row of numbers, so that each run of the tests makes the same calls. */
    private static final class Numbers {
        private long state;

        Numbers(long seed) {
            state = seed * 7919 + 12345;
        }

        int below(int bound) {
            state = state * 6364136223846793005L + 1442695040888963407L;
            return (int) ((state >>> 33) % bound);
        }

        /** Mostly low .. high; now and then an edge, a number just outside, or one far outside. */
        int around(int low, int high) {
            int[] edges = {low, high, low - 1, high + 1, Integer.MIN_VALUE, Integer.MAX_VALUE};
            return below(20) == 0 ? edges[below(edges.length)] : low + below(high - low + 1);
        }
    }

    private static int wrong = 0;
    private static int refused = 0;

    private static void compare(int run, int call, String text, int got, int want) {
        if (got == FULL) {
            refused++;
        }
        if (got != want) {
            wrong++;
            if (wrong <= MOST_REPORTS) {
                System.out.println("run " + run + ", call " + call + ": " + text + " answered " + got + ", due is " + want);
            }
        }
    }

    private static void change(int run, int call, AreaMap x, Model m, Numbers n, int longest) {
        int first = n.around(0, 63);
        int length = n.around(1, longest);
        // Few kinds in some runs, so that neighbours often are the same.
        int kind = run % 3 == 0 ? 8 * n.below(2) + n.below(2) : n.around(0, 127);
        int rights = n.around(0, run % 3 == 0 ? 1 : 7);
        String span = "(" + first + ", " + length;
        switch (n.below(7)) {
            case 0, 1, 2 -> compare(run, call, "map" + span + ", " + kind + ")", x.map(first, length, kind), m.map(first, length, kind));
            case 3, 4 -> compare(run, call, "place" + span + ", " + kind + ")", x.place(first, length, kind), m.place(first, length, kind));
            case 5 -> compare(run, call, "free" + span + ")", x.free(first, length), m.free(first, length));
            default -> compare(run, call, "protect" + span + ", " + rights + ")", x.protect(first, length, rights), m.protect(first, length, rights));
        }
    }

    private static void ask(int run, int call, AreaMap x, Model m, Numbers n) {
        int page = n.around(0, 63);
        int area = n.around(0, 20);
        int tag = n.around(0, run % 3 == 0 ? 1 : 15);
        int length = n.around(1, 4);
        int rights = n.around(0, 7);
        switch (n.below(10)) {
            case 0 -> compare(run, call, "rights(" + page + ")", x.rights(page), m.rights(page));
            case 1 -> compare(run, call, "tag(" + page + ")", x.tag(page), m.tag(page));
            case 2 -> compare(run, call, "areas()", x.areas(), m.areas());
            case 3 -> compare(run, call, "areaFirst(" + area + ")", x.areaFirst(area), m.areaFirst(area));
            case 4 -> compare(run, call, "areaLength(" + area + ")", x.areaLength(area), m.areaLength(area));
            case 5 -> compare(run, call, "areaOf(" + page + ")", x.areaOf(page), m.areaOf(page));
            case 6 -> compare(run, call, "mapped()", x.mapped(), m.mapped());
            case 7 -> compare(run, call, "longestFree()", x.longestFree(), m.longestFree());
            case 8 -> compare(run, call, "allows(" + page + ", " + length + ", " + rights + ")",
                x.allows(page, length, rights) ? 1 : 0, m.allows(page, length, rights) ? 1 : 0);
            default -> compare(run, call, "nextWith(" + tag + ", " + page + ")", x.nextWith(tag, page), m.nextWith(tag, page));
        }
    }

    private static void run(int run) {
        AreaMap x = new AreaMap();
        Model m = new Model();
        Numbers n = new Numbers(run);
        int[] longest = {2, 4, 8, 24};
        for (int call = 1; call <= CALLS; call++) {
            if (n.below(2) == 0) {
                change(run, call, x, m, n, longest[run % 4]);
            } else {
                ask(run, call, x, m, n);
            }
        }
    }

    public static void main(String[] args) {
        for (int run = 1; run <= RUNS; run++) {
            run(run);
        }
        if (refused < RUNS) {
            wrong++;
            System.out.println("only " + refused + " calls were refused: the runs no longer reach the limit");
        }
        System.out.println(wrong == 0 ? "all answers are as due" : wrong + " answers are not as due");
        if (wrong != 0) {
            System.exit(1);
        }
    }
}
