import java.util.ArrayList;
import java.util.Arrays;
import java.util.List;

/**
 * A test for each sentence of the document that names a boundary case: at the boundary and on both sides of it.
 * Each case has an object of its own: a state is made, one call is looked at, and then every question is asked and
 * some later changes are made, so that a call which should have changed nothing can't have changed anything unseen.
 */
public final class BoundaryTests {
    private static final int BAD = -1;
    private static final int FULL = -2;
    private static final int NONE = -3;
    private static final int LOWEST = Integer.MIN_VALUE;
    private static final int HIGHEST = Integer.MAX_VALUE;
    private static final int MOST_CALLS = 512;
    private static final int MOST_REPORTS = 40;

    /** In the helpers that make states: the pages are free. */
    private static final int FREE = -1;

    private static int wrong = 0;
    private static int cases = 0;
    private static String sentence = "";

    private static void fault(String text) {
        wrong++;
        if (wrong <= MOST_REPORTS) {
            System.out.println(sentence + ": " + text);
        }
    }

    // ---- An object under test

    /** An object, its last call with the answer, and how many calls it has had. */
    private static final class Calls {
        private final AreaMap map = new AreaMap();
        private int made = 0;
        private String call = "";
        private int answer = 0;

        private Calls answered(String name, int got, int... arguments) {
            made++;
            call = name + Arrays.toString(arguments).replace('[', '(').replace(']', ')');
            answer = got;
            return this;
        }

        Calls map(int first, int length, int kind) {
            return answered("map", map.map(first, length, kind), first, length, kind);
        }

        Calls place(int hint, int length, int kind) {
            return answered("place", map.place(hint, length, kind), hint, length, kind);
        }

        Calls free(int first, int length) {
            return answered("free", map.free(first, length), first, length);
        }

        Calls protect(int first, int length, int rights) {
            return answered("protect", map.protect(first, length, rights), first, length, rights);
        }

        Calls rights(int page) {
            return answered("rights", map.rights(page), page);
        }

        Calls tag(int page) {
            return answered("tag", map.tag(page), page);
        }

        Calls areas() {
            return answered("areas", map.areas());
        }

        Calls areaFirst(int i) {
            return answered("areaFirst", map.areaFirst(i), i);
        }

        Calls areaLength(int i) {
            return answered("areaLength", map.areaLength(i), i);
        }

        Calls areaOf(int page) {
            return answered("areaOf", map.areaOf(page), page);
        }

        Calls mapped() {
            return answered("mapped", map.mapped());
        }

        Calls longestFree() {
            return answered("longestFree", map.longestFree());
        }

        Calls allows(int first, int length, int rights) {
            return answered("allows", map.allows(first, length, rights) ? 1 : 0, first, length, rights);
        }

        Calls nextWith(int tag, int page) {
            return answered("nextWith", map.nextWith(tag, page), tag, page);
        }

        Calls due(int want) {
            if (made > MOST_CALLS) {
                fault("the test makes " + made + " calls, and nothing is due after " + MOST_CALLS);
            }
            if (answer != want) {
                fault("call " + made + ", " + call + " answered " + answer + ", due is " + want);
            }
            return this;
        }

        Calls due(boolean want) {
            return due(want ? 1 : 0);
        }

        /** Asks everything there is to ask about a state. */
        void holds(int[][] state) {
            pagesHold(kindsOf(state));
            areasHold(state);
            int mappedPages = 0;
            int longest = 0;
            int end = 0;
            for (int[] area : state) {
                mappedPages += area[1];
                longest = Math.max(longest, area[0] - end);
                end = area[0] + area[1];
            }
            mapped().due(mappedPages);
            longestFree().due(Math.max(longest, 64 - end));
        }

        private void pagesHold(int[] kinds) {
            int[] firstWith = new int[16];
            Arrays.fill(firstWith, NONE);
            for (int page = 63; page >= 0; page--) {
                boolean isFree = kinds[page] == FREE;
                rights(page).due(isFree ? NONE : kinds[page] % 8);
                tag(page).due(isFree ? NONE : kinds[page] / 8);
                if (isFree) {
                    areaOf(page).due(NONE);
                } else {
                    firstWith[kinds[page] / 8] = page;
                }
            }
            for (int tag = 0; tag < 16; tag++) {
                nextWith(tag, 0).due(firstWith[tag]);
            }
        }

        private void areasHold(int[][] state) {
            areas().due(state.length);
            areaFirst(-1).due(NONE);
            areaLength(-1).due(NONE);
            for (int i = 0; i < state.length; i++) {
                int first = state[i][0];
                int length = state[i][1];
                int rights = state[i][2] % 8;
                areaFirst(i).due(first);
                areaLength(i).due(length);
                for (int page = first; page < first + length; page++) {
                    areaOf(page).due(i);
                }
                allows(first, length, rights).due(true);
                allows(first, length, 7).due(rights == 7);
            }
            areaFirst(state.length).due(NONE);
            areaLength(state.length).due(NONE);
        }

        /** Later changes: they count what is mapped, use all pages anew, and meet the limit where it was. */
        void goesOn(int[][] state) {
            int mappedPages = Arrays.stream(state).mapToInt(area -> area[1]).sum();
            free(0, 64).due(mappedPages);
            place(63, 64, 127).due(0);
            protect(0, 64, 0).due(64);
            free(0, 64).due(64);
            for (int[] area : TWENTY) {
                place(area[0], area[1], area[2]).due(area[0]);
            }
            map(60, 1, 9).due(FULL);
            place(60, 1, 9).due(FULL);
            areas().due(20);
            mapped().due(40);
        }
    }

    // ---- States: rows of areas {first, length, kind}, the least first

    private static int kind(int rights, int tag) {
        return rights + 8 * tag;
    }

    private static int[][] state(int... triples) {
        int[][] areas = new int[triples.length / 3][];
        for (int i = 0; i < areas.length; i++) {
            areas[i] = Arrays.copyOfRange(triples, 3 * i, 3 * i + 3);
        }
        return areas;
    }

    private static int[] kindsOf(int[][] state) {
        int[] kinds = new int[64];
        Arrays.fill(kinds, FREE);
        for (int[] area : state) {
            Arrays.fill(kinds, area[0], area[0] + area[1], area[2]);
        }
        return kinds;
    }

    /** The state with some areas in the place of count areas from number i on. */
    private static int[][] swap(int[][] state, int i, int count, int... triples) {
        List<int[]> areas = new ArrayList<>(Arrays.asList(state));
        areas.subList(i, i + count).clear();
        areas.addAll(i, Arrays.asList(state(triples)));
        return areas.toArray(new int[0][]);
    }

    /** All pages of one kind, but for one span of another; either may be FREE. */
    private static int[][] cut(int first, int length, int outside, int inside) {
        int end = first + length;
        int[][] pieces = {{0, first, outside}, {first, length, inside}, {end, 64 - end, outside}};
        return Arrays.stream(pieces).filter(piece -> piece[1] > 0 && piece[2] != FREE).toArray(int[][]::new);
    }

    private static int[][] areasOfTwo(int count, int kind) {
        int[][] areas = new int[count][];
        for (int i = 0; i < count; i++) {
            areas[i] = new int[] {3 * i, 2, kind};
        }
        return areas;
    }

    /** 20 areas without a free page: three pages each, the last one seven, all of one tag. */
    private static int[][] packed() {
        int[][] areas = new int[20][];
        for (int i = 0; i < 20; i++) {
            areas[i] = new int[] {3 * i, i < 19 ? 3 : 7, kind(1 + i % 2, 3)};
        }
        return areas;
    }

    private static final int[][] EMPTY = state();
    private static final int[][] ALL = state(0, 64, kind(1, 1));

    /** Both ends mapped, free pages between, a neighbour with other rights and one with another tag. */
    private static final int[][] SOME = state(0, 2, kind(1, 1), 10, 5, kind(2, 2), 15, 3, kind(6, 2), 18, 2, kind(6, 4),
        62, 2, kind(7, 15));

    /** Areas of two pages with one free page behind each; the rest, from 59 on (62 with an area more), is free. */
    private static final int[][] TWENTY = areasOfTwo(20, 9);
    private static final int[][] NINETEEN = areasOfTwo(19, 9);
    private static final int[][] EIGHTEEN = areasOfTwo(18, 9);

    /** The same with the last area grown to the end, so that it can be split. */
    private static final int[][] TWENTY_LONG = swap(TWENTY, 19, 1, 57, 7, 9);
    private static final int[][] NINETEEN_LONG = swap(NINETEEN, 18, 1, 54, 10, 9);
    private static final int[][] EIGHTEEN_LONG = swap(EIGHTEEN, 17, 1, 51, 13, 9);

    private static final int[][] PACKED = packed();

    /** All pages are mapped but for 10 .. 12, 20 .. 23 and 40 .. 43. */
    private static final int[][] ROOMS = state(0, 10, 9, 13, 7, 9, 24, 16, 9, 44, 20, 9);

    private interface Step {
        void on(Calls x);
    }

    private static Calls at(int[][] state) {
        Calls x = new Calls();
        for (int[] area : state) {
            x.map(area[0], area[1], area[2]).due(0);
        }
        return x;
    }

    private static void leaves(int[][] before, Step step, int[][] after) {
        cases++;
        Calls x = at(before);
        step.on(x);
        x.holds(after);
        x.goesOn(after);
    }

    /** Each step has an object of its own, so that no step hides what another did. */
    private static void changesNothing(int[][] state, Step... steps) {
        for (Step step : steps) {
            leaves(state, step, state);
        }
    }

    // ---- What it is

    private static void for512Calls() {
        int kind = kind(5, 6);
        Step[] lastCalls = {
            x -> x.map(20, 3, kind).due(0), x -> x.place(19, 8, kind).due(20), x -> x.free(10, 5).due(5),
            x -> x.protect(10, 8, 6).due(5), x -> x.rights(12).due(2), x -> x.tag(63).due(15), x -> x.areas().due(5),
            x -> x.areaFirst(3).due(18), x -> x.areaLength(2).due(3), x -> x.areaOf(62).due(4), x -> x.mapped().due(14),
            x -> x.longestFree().due(42), x -> x.allows(10, 10, 2).due(true), x -> x.nextWith(4, 0).due(18),
        };
        Step[] callsBefore = {
            x -> x.map(0, 2, kind(1, 1)).due(2), x -> x.free(30, 1).due(0), x -> x.protect(10, 5, 2).due(0),
            x -> x.place(0, 43, 0).due(NONE), x -> x.map(0, 65, 0).due(BAD), x -> x.areas().due(5),
        };
        for (Step before : callsBefore) {
            for (Step last : lastCalls) {
                cases++;
                Calls x = at(SOME);
                while (x.made < 511) {
                    before.on(x);
                }
                last.on(x);
            }
        }
    }

    private static void for512Changes() {
        cases++;
        Calls x = new Calls();
        for (int i = 0; i < 255; i++) {
            x.place(i % 64, 1, i % 128).due(i % 64);
            x.free(i % 64, 1).due(1);
        }
        x.place(5, 60, 9).due(0);
        x.longestFree().due(4);
    }

    private static void for512Refusals() {
        cases++;
        Calls x = at(TWENTY);
        while (x.made < 510) {
            x.map(61, 1, 9).due(FULL);
        }
        x.map(59, 5, 9).due(0);
        x.areaLength(19).due(7);
    }

    /** What calls after the 512th answer is free, but LANGUAGE.md (rule 7) lets none of them throw. */
    private static void endsAfter512Calls() {
        cases++;
        Calls x = at(TWENTY);
        while (x.made < 20000) {
            x.map(x.made % 70 - 3, 2, x.made % 128).place(x.made % 64, 3, 1).free(x.made % 64, 1).protect(0, 1, 3);
            x.rights(5).tag(5).areas().areaFirst(19).areaLength(19).areaOf(63).mapped().longestFree();
            x.allows(0, 64, 7).nextWith(1, 0);
        }
    }

    // ---- Terms

    private static void pages() {
        leaves(EMPTY, x -> x.map(0, 1, 9).due(0), state(0, 1, 9));
        leaves(EMPTY, x -> x.map(1, 1, 9).due(0), state(1, 1, 9));
        leaves(EMPTY, x -> x.map(62, 1, 9).due(0), state(62, 1, 9));
        leaves(EMPTY, x -> x.map(63, 1, 9).due(0), state(63, 1, 9));
        leaves(EMPTY, x -> x.map(0, 64, 9).due(0), state(0, 64, 9));
        changesNothing(EMPTY, x -> x.map(-1, 1, 9).due(BAD), x -> x.map(64, 1, 9).due(BAD));
    }

    private static void rightsAndTags() {
        for (int rights = 0; rights < 8; rights++) {
            for (int tag = 0; tag < 16; tag++) {
                int kind = kind(rights, tag);
                leaves(EMPTY, x -> x.map(31, 2, kind).due(0), state(31, 2, kind));
                leaves(ALL, x -> x.map(0, 64, kind).due(64), state(0, 64, kind));
                leaves(EMPTY, x -> x.place(31, 2, kind).due(31), state(31, 2, kind));
            }
        }
    }

    private static void areaIsOneKind() {
        int kind = kind(5, 10);
        for (int bit = 0; bit < 7; bit++) {
            int other = kind ^ (1 << bit);
            leaves(state(10, 2, kind), x -> x.map(12, 2, other).due(0), state(10, 2, kind, 12, 2, other));
            leaves(state(10, 2, kind), x -> x.map(8, 2, other).due(0), state(8, 2, other, 10, 2, kind));
        }
        leaves(state(10, 2, kind), x -> x.map(12, 2, kind).due(0), state(10, 4, kind));
        leaves(state(10, 2, kind), x -> x.map(8, 2, kind).due(0), state(8, 4, kind));
    }

    private static void areaIsOfPagesThatFollow() {
        leaves(state(10, 2, 9), x -> x.map(13, 2, 9).due(0), state(10, 2, 9, 13, 2, 9));
        leaves(state(10, 2, 9, 13, 2, 9), x -> x.map(12, 1, 9).due(0), state(10, 5, 9));
        leaves(state(10, 5, 9), x -> x.free(12, 1).due(1), state(10, 2, 9, 13, 2, 9));
        leaves(state(0, 1, 9), x -> x.map(63, 1, 9).due(0), state(0, 1, 9, 63, 1, 9));
        leaves(state(0, 1, 0), x -> x.map(63, 1, 0).due(0), state(0, 1, 0, 63, 1, 0));
    }

    private static void areaIsLongest() {
        leaves(state(0, 30, 9, 34, 30, 9), x -> x.map(30, 4, 9).due(0), state(0, 64, 9));
        leaves(state(0, 30, 9, 34, 30, 9), x -> x.place(0, 4, 9).due(30), state(0, 64, 9));
        leaves(state(0, 30, 9, 30, 4, 10, 34, 30, 9), x -> x.map(30, 4, 9).due(4), state(0, 64, 9));
        leaves(state(0, 30, 9, 30, 4, 10, 34, 30, 9), x -> x.protect(30, 4, 1).due(4), state(0, 64, 9));
        leaves(state(0, 30, 9, 30, 4, 18, 34, 30, 9), x -> x.protect(30, 4, 1).due(4),
            state(0, 30, 9, 30, 4, 17, 34, 30, 9));
    }

    /** Around every edge of a proper span, and where sums of first and length wrap around. */
    private static List<int[]> spans(boolean proper) {
        int[] firsts = {-65, -64, -63, -2, -1, 0, 1, 2, 31, 62, 63, 64, 65, LOWEST, LOWEST + 1, HIGHEST - 1, HIGHEST};
        int[] lengths = {-64, -63, -2, -1, 0, 1, 2, 3, 32, 33, 34, 61, 62, 63, 64, 65, 66, 128, 129, LOWEST, LOWEST + 1,
            LOWEST + 63, LOWEST + 64, HIGHEST - 63, HIGHEST - 62, HIGHEST - 1, HIGHEST};
        List<int[]> spans = new ArrayList<>();
        for (int first : firsts) {
            for (int length : lengths) {
                long last = (long) first + length - 1;
                if (proper == (length >= 1 && first >= 0 && last <= 63)) {
                    spans.add(new int[] {first, length});
                }
            }
        }
        return spans;
    }

    private interface SpanTest {
        void with(int first, int length);
    }

    private static void forSpans(boolean proper, SpanTest test) {
        for (int[] span : spans(proper)) {
            test.with(span[0], span[1]);
        }
    }

    private static void spansAreTold() {
        cases++;
        int properOnes = spans(true).size();
        int otherOnes = spans(false).size();
        if (properOnes < 30 || otherOnes < 300) {
            fault("only " + properOnes + " proper spans and " + otherOnes + " others are tried");
        }
    }

    // ---- The limit of 20 areas

    private static void mapUpToTwenty() {
        leaves(EIGHTEEN, x -> x.map(54, 2, 9).due(0), NINETEEN);
        leaves(NINETEEN, x -> x.map(57, 2, 9).due(0), TWENTY);
        leaves(NINETEEN, x -> x.map(0, 1, 10).due(1), swap(NINETEEN, 0, 1, 0, 1, 10, 1, 1, 9));
        leaves(NINETEEN, x -> x.map(2, 1, 10).due(0), swap(NINETEEN, 1, 0, 2, 1, 10));
        leaves(EIGHTEEN_LONG, x -> x.map(60, 1, 10).due(1), swap(EIGHTEEN_LONG, 17, 1, 51, 9, 9, 60, 1, 10, 61, 3, 9));
    }

    private static void mapStaysAtTwenty() {
        leaves(TWENTY, x -> x.map(59, 5, 9).due(0), TWENTY_LONG);
        leaves(TWENTY, x -> x.map(57, 2, 9).due(2), TWENTY);
        leaves(TWENTY, x -> x.map(0, 2, 10).due(2), swap(TWENTY, 0, 1, 0, 2, 10));
        leaves(TWENTY, x -> x.map(0, 4, 10).due(3), swap(TWENTY, 0, 2, 0, 4, 10, 4, 1, 9));
        leaves(TWENTY, x -> x.map(1, 7, 10).due(5), swap(TWENTY, 0, 3, 0, 1, 9, 1, 7, 10));
        leaves(PACKED, x -> x.map(2, 1, kind(2, 3)).due(1), swap(PACKED, 0, 2, 0, 2, kind(1, 3), 2, 4, kind(2, 3)));
    }

    private static void mapBelowTwenty() {
        leaves(TWENTY, x -> x.map(2, 1, 9).due(0), swap(TWENTY, 0, 2, 0, 5, 9));
        leaves(TWENTY, x -> x.map(2, 8, 9).due(5), swap(TWENTY, 0, 4, 0, 11, 9));
        leaves(TWENTY, x -> x.map(0, 64, 10).due(40), state(0, 64, 10));
        leaves(TWENTY, x -> x.map(1, 62, 10).due(39), state(0, 1, 9, 1, 62, 10));
    }

    private static void mapAboveTwenty() {
        changesNothing(TWENTY, x -> x.map(60, 1, 9).due(FULL), x -> x.map(63, 1, 127).due(FULL),
            x -> x.map(59, 1, 10).due(FULL), x -> x.map(59, 5, 1).due(FULL), x -> x.map(2, 1, 10).due(FULL),
            x -> x.map(2, 1, 17).due(FULL), x -> x.map(0, 1, 10).due(FULL), x -> x.map(1, 1, 0).due(FULL),
            x -> x.map(1, 2, 10).due(FULL), x -> x.map(1, 3, 10).due(FULL), x -> x.map(58, 6, 127).due(FULL));
        changesNothing(TWENTY_LONG, x -> x.map(63, 1, 10).due(FULL), x -> x.map(60, 1, 10).due(FULL),
            x -> x.map(58, 5, 17).due(FULL));
        changesNothing(NINETEEN_LONG, x -> x.map(60, 1, 10).due(FULL), x -> x.map(55, 8, 0).due(FULL));
        changesNothing(PACKED, x -> x.map(0, 1, 0).due(FULL), x -> x.map(4, 1, 0).due(FULL),
            x -> x.map(2, 2, 0).due(FULL), x -> x.map(63, 1, 0).due(FULL));
    }

    private static void placeUpToTwenty() {
        leaves(EIGHTEEN, x -> x.place(54, 2, 9).due(54), NINETEEN);
        leaves(NINETEEN, x -> x.place(57, 2, 9).due(57), TWENTY);
        leaves(NINETEEN, x -> x.place(0, 1, 10).due(2), swap(NINETEEN, 1, 0, 2, 1, 10));
        leaves(NINETEEN, x -> x.place(63, 1, 0).due(63), swap(NINETEEN, 19, 0, 63, 1, 0));
    }

    private static void placeAtOrBelowTwenty() {
        leaves(TWENTY, x -> x.place(0, 5, 9).due(59), TWENTY_LONG);
        leaves(TWENTY, x -> x.place(63, 2, 9).due(59), swap(TWENTY, 19, 1, 57, 4, 9));
        leaves(TWENTY, x -> x.place(0, 1, 9).due(2), swap(TWENTY, 0, 2, 0, 5, 9));
        leaves(TWENTY, x -> x.place(56, 1, 9).due(56), swap(TWENTY, 18, 2, 54, 5, 9));
    }

    private static void placeAboveTwenty() {
        changesNothing(TWENTY, x -> x.place(0, 1, 10).due(FULL), x -> x.place(0, 1, 1).due(FULL),
            x -> x.place(60, 1, 9).due(FULL), x -> x.place(60, 4, 9).due(FULL), x -> x.place(59, 1, 10).due(FULL),
            x -> x.place(0, 5, 17).due(FULL), x -> x.place(63, 1, 9).due(FULL), x -> x.place(63, 2, 10).due(FULL));
    }

    /** The document names no other room for a place that is refused, so the least room alone decides. */
    private static void placeTriesOneRoom() {
        int[][] otherEnd = swap(TWENTY, 19, 1, 57, 2, 10);
        changesNothing(otherEnd, x -> x.place(0, 1, 10).due(FULL), x -> x.place(60, 2, 10).due(FULL));
        leaves(otherEnd, x -> x.place(57, 1, 10).due(59), swap(otherEnd, 19, 1, 57, 3, 10));
    }

    private static void freeUpToTwenty() {
        leaves(NINETEEN_LONG, x -> x.free(56, 1).due(1), swap(NINETEEN_LONG, 18, 1, 54, 2, 9, 57, 7, 9));
        leaves(NINETEEN_LONG, x -> x.free(55, 8).due(8), swap(NINETEEN_LONG, 18, 1, 54, 1, 9, 63, 1, 9));
        leaves(EIGHTEEN_LONG, x -> x.free(62, 1).due(1), swap(EIGHTEEN_LONG, 17, 1, 51, 11, 9, 63, 1, 9));
    }

    private static void freeAtOrBelowTwenty() {
        leaves(TWENTY_LONG, x -> x.free(63, 1).due(1), swap(TWENTY, 19, 1, 57, 6, 9));
        leaves(TWENTY_LONG, x -> x.free(57, 6).due(6), swap(TWENTY, 19, 1, 63, 1, 9));
        leaves(TWENTY_LONG, x -> x.free(59, 5).due(5), TWENTY);
        leaves(TWENTY_LONG, x -> x.free(1, 3).due(2), swap(TWENTY_LONG, 0, 2, 0, 1, 9, 4, 1, 9));
        leaves(TWENTY_LONG, x -> x.free(57, 7).due(7), NINETEEN);
        leaves(PACKED, x -> x.free(2, 2).due(2), swap(PACKED, 0, 2, 0, 2, kind(1, 3), 4, 2, kind(2, 3)));
        leaves(PACKED, x -> x.free(3, 3).due(3), swap(PACKED, 1, 1));
        leaves(TWENTY, x -> x.free(0, 64).due(40), EMPTY);
        changesNothing(TWENTY, x -> x.free(2, 1).due(0), x -> x.free(59, 5).due(0));
    }

    private static void freeAboveTwenty() {
        changesNothing(TWENTY_LONG, x -> x.free(58, 1).due(FULL), x -> x.free(62, 1).due(FULL),
            x -> x.free(60, 2).due(FULL), x -> x.free(58, 5).due(FULL));
        changesNothing(PACKED, x -> x.free(1, 1).due(FULL), x -> x.free(4, 1).due(FULL), x -> x.free(58, 5).due(FULL));
    }

    private static void protectUpToTwenty() {
        leaves(NINETEEN, x -> x.protect(0, 1, 2).due(1), swap(NINETEEN, 0, 1, 0, 1, 10, 1, 1, 9));
        leaves(NINETEEN_LONG, x -> x.protect(63, 1, 0).due(1), swap(NINETEEN_LONG, 18, 1, 54, 9, 9, 63, 1, 8));
        leaves(EIGHTEEN_LONG, x -> x.protect(60, 2, 7).due(2),
            swap(EIGHTEEN_LONG, 17, 1, 51, 9, 9, 60, 2, 15, 62, 2, 9));
    }

    private static void protectAtOrBelowTwenty() {
        leaves(TWENTY, x -> x.protect(0, 2, 2).due(2), swap(TWENTY, 0, 1, 0, 2, 10));
        leaves(PACKED, x -> x.protect(2, 1, 2).due(1), swap(PACKED, 0, 2, 0, 2, kind(1, 3), 2, 4, kind(2, 3)));
        leaves(PACKED, x -> x.protect(1, 3, 2).due(2), swap(PACKED, 0, 2, 0, 1, kind(1, 3), 1, 5, kind(2, 3)));
        leaves(PACKED, x -> x.protect(0, 4, 7).due(4), swap(PACKED, 0, 2, 0, 4, kind(7, 3), 4, 2, kind(2, 3)));
        leaves(PACKED, x -> x.protect(3, 3, 1).due(3), swap(PACKED, 0, 3, 0, 9, kind(1, 3)));
        leaves(PACKED, x -> x.protect(0, 64, 1).due(34), state(0, 64, kind(1, 3)));
        leaves(PACKED, x -> x.protect(0, 64, 7).due(64), state(0, 64, kind(7, 3)));
        changesNothing(TWENTY, x -> x.protect(0, 1, 1).due(0), x -> x.protect(57, 2, 1).due(0));
    }

    private static void protectAboveTwenty() {
        changesNothing(TWENTY, x -> x.protect(0, 1, 2).due(FULL), x -> x.protect(1, 1, 0).due(FULL),
            x -> x.protect(58, 1, 7).due(FULL));
        changesNothing(TWENTY_LONG, x -> x.protect(57, 1, 0).due(FULL), x -> x.protect(60, 1, 2).due(FULL),
            x -> x.protect(63, 1, 2).due(FULL));
        changesNothing(NINETEEN_LONG, x -> x.protect(60, 1, 2).due(FULL), x -> x.protect(55, 8, 3).due(FULL));
        changesNothing(PACKED, x -> x.protect(0, 1, 2).due(FULL), x -> x.protect(1, 1, 2).due(FULL),
            x -> x.protect(2, 3, 7).due(FULL), x -> x.protect(58, 5, 1).due(FULL),
            x -> x.protect(63, 1, 1).due(FULL));
    }

    /** The way to twenty and against the limit by one kind of call alone. */
    private static void twentyByOneCall() {
        leaves(EMPTY, x -> {
            for (int i = 0; i < 20; i++) {
                x.place(0, 1, 9 + i % 2).due(i);
                x.areas().due(i + 1);
            }
            x.place(0, 1, 9).due(FULL);
            x.free(0, 20).due(20);
        }, EMPTY);
        leaves(ALL, x -> {
            for (int i = 0; i < 19; i++) {
                x.free(2 * i + 1, 1).due(1);
                x.areas().due(i + 2);
            }
            x.free(39, 1).due(FULL);
            x.map(0, 64, kind(1, 1)).due(45);
        }, ALL);
        leaves(ALL, x -> {
            for (int i = 0; i < 9; i++) {
                x.protect(2 * i + 1, 1, 2).due(1);
                x.areas().due(2 * i + 3);
            }
            x.protect(19, 1, 2).due(FULL);
            x.protect(63, 1, 2).due(1);
            x.areas().due(20);
            x.protect(62, 1, 3).due(FULL);
            x.protect(0, 64, 1).due(10);
        }, ALL);
    }

    /** What a refused call was to change can be changed as soon as there is room for one area more. */
    private static void acceptedAfterRefusal() {
        leaves(TWENTY, x -> {
            x.map(60, 1, 10).due(FULL);
            x.free(0, 2).due(2);
            x.map(60, 1, 10).due(0);
        }, swap(swap(TWENTY, 20, 0, 60, 1, 10), 0, 1));
        leaves(TWENTY, x -> {
            x.place(60, 1, 10).due(FULL);
            x.free(0, 2).due(2);
            x.place(60, 1, 10).due(60);
        }, swap(swap(TWENTY, 20, 0, 60, 1, 10), 0, 1));
        leaves(TWENTY_LONG, x -> {
            x.free(62, 1).due(FULL);
            x.map(2, 1, 9).due(0);
            x.free(62, 1).due(1);
        }, swap(swap(TWENTY, 19, 1, 57, 5, 9, 63, 1, 9), 0, 2, 0, 5, 9));
        leaves(TWENTY, x -> {
            x.protect(58, 1, 2).due(FULL);
            x.place(0, 1, 9).due(2);
            x.protect(58, 1, 2).due(1);
        }, swap(swap(TWENTY, 19, 1, 57, 1, 9, 58, 1, 10), 0, 2, 0, 5, 9));
    }

    // ---- Promise 1

    private static void newObject() {
        leaves(EMPTY, x -> x.areas().due(0), EMPTY);
        leaves(EMPTY, x -> x.map(0, 64, 127).due(0), state(0, 64, 127));
        leaves(EMPTY, x -> x.longestFree().due(64), EMPTY);
    }

    private static void newObjectBesideAnother() {
        cases++;
        Calls x = at(SOME);
        Calls y = new Calls();
        y.holds(EMPTY);
        y.map(0, 64, 127).due(0);
        y.map(0, 65, 127).due(BAD);
        x.holds(SOME);
        y.holds(state(0, 64, 127));
        x.goesOn(SOME);
    }

    // ---- Promise 2: map

    private static void mapProper() {
        forSpans(true, (first, length) -> {
            leaves(EMPTY, x -> x.map(first, length, 0).due(0), cut(first, length, FREE, 0));
            leaves(ALL, x -> x.map(first, length, 127).due(length), cut(first, length, kind(1, 1), 127));
        });
    }

    private static void mapNotProper() {
        forSpans(false, (first, length) -> {
            changesNothing(SOME, x -> x.map(first, length, 5).due(BAD));
            changesNothing(ALL, x -> x.map(first, length, 5).due(BAD));
        });
    }

    private static void mapKind() {
        leaves(SOME, x -> x.map(30, 2, 0).due(0), swap(SOME, 4, 0, 30, 2, 0));
        leaves(SOME, x -> x.map(30, 2, 1).due(0), swap(SOME, 4, 0, 30, 2, 1));
        leaves(SOME, x -> x.map(30, 2, 126).due(0), swap(SOME, 4, 0, 30, 2, 126));
        leaves(SOME, x -> x.map(30, 2, 127).due(0), swap(SOME, 4, 0, 30, 2, 127));
        int[] kinds = {-1, -2, -8, -128, -129, 128, 129, 255, 256, LOWEST, LOWEST + 9, HIGHEST};
        for (int kind : kinds) {
            changesNothing(SOME, x -> x.map(10, 2, kind).due(BAD), x -> x.map(30, 2, kind).due(BAD));
        }
    }

    private static void mapCounts() {
        int[][] two = state(9, 1, 9, 20, 1, 9);
        leaves(two, x -> x.map(10, 10, 9).due(0), state(9, 12, 9));
        leaves(two, x -> x.map(9, 11, 9).due(1), state(9, 12, 9));
        leaves(two, x -> x.map(10, 11, 9).due(1), state(9, 12, 9));
        leaves(two, x -> x.map(9, 12, 9).due(2), state(9, 12, 9));
        leaves(two, x -> x.map(0, 64, 0).due(2), state(0, 64, 0));
        leaves(SOME, x -> x.map(0, 64, 0).due(14), state(0, 64, 0));
        leaves(state(5, 1, 0), x -> x.map(5, 1, 1).due(1), state(5, 1, 1));
        changesNothing(SOME, x -> x.map(10, 5, kind(2, 2)).due(5), x -> x.map(63, 1, 127).due(1));
    }

    // ---- Promise 3: place

    /** The kind is one that no state here has, so that the placed pages are an area of their own. */
    private static void placed(int[][] before, int hint, int length, int due) {
        int kind = kind(6, 15);
        int i = 0;
        while (i < before.length && before[i][0] < due) {
            i++;
        }
        leaves(before, x -> x.place(hint, length, kind).due(due), swap(before, i, 0, due, length, kind));
    }

    private static void placeAtLeastRoomFromHint() {
        placed(ROOMS, 0, 3, 10);
        placed(ROOMS, 9, 3, 10);
        placed(ROOMS, 10, 3, 10);
        placed(ROOMS, 11, 3, 20);
        placed(ROOMS, 11, 2, 11);
        placed(ROOMS, 12, 1, 12);
        placed(ROOMS, 13, 1, 20);
        placed(ROOMS, 0, 4, 20);
        placed(ROOMS, 20, 4, 20);
        placed(ROOMS, 21, 4, 40);
        placed(ROOMS, 21, 3, 21);
        placed(ROOMS, 40, 4, 40);
        placed(ROOMS, 41, 3, 41);
        placed(ROOMS, 43, 1, 43);
    }

    private static void placeAtLeastRoomOfAll() {
        placed(ROOMS, 41, 4, 20);
        placed(ROOMS, 42, 3, 10);
        placed(ROOMS, 43, 2, 10);
        placed(ROOMS, 44, 1, 10);
        placed(ROOMS, 63, 1, 10);
        placed(ROOMS, 63, 4, 20);
        int[][] oneRoom = state(0, 20, 9, 30, 34, 9);
        placed(oneRoom, 20, 10, 20);
        placed(oneRoom, 21, 10, 20);
        placed(oneRoom, 25, 5, 25);
        placed(oneRoom, 25, 6, 20);
        placed(oneRoom, 29, 1, 29);
        placed(oneRoom, 29, 2, 20);
        placed(oneRoom, 30, 1, 20);
    }

    private static void placeAtTheEnds() {
        placed(EMPTY, 0, 1, 0);
        placed(EMPTY, 0, 64, 0);
        placed(EMPTY, 1, 64, 0);
        placed(EMPTY, 1, 63, 1);
        placed(EMPTY, 2, 63, 0);
        placed(EMPTY, 62, 1, 62);
        placed(EMPTY, 62, 2, 62);
        placed(EMPTY, 63, 1, 63);
        placed(EMPTY, 63, 2, 0);
        placed(EMPTY, 63, 64, 0);
        placed(state(0, 63, 9), 0, 1, 63);
        placed(state(1, 63, 9), 63, 1, 0);
    }

    private static void placeDoesNotWrapAround() {
        int[][] ends = state(2, 60, 9);
        changesNothing(ends, x -> x.place(62, 3, 127).due(NONE), x -> x.place(63, 3, 127).due(NONE),
            x -> x.place(62, 4, 127).due(NONE), x -> x.place(0, 3, 127).due(NONE));
        placed(ends, 62, 2, 62);
        placed(ends, 63, 2, 0);
    }

    private static void placeNoRoom() {
        changesNothing(ALL, x -> x.place(0, 1, 9).due(NONE), x -> x.place(63, 1, 9).due(NONE),
            x -> x.place(0, 64, 9).due(NONE), x -> x.place(32, 65, 9).due(NONE));
        changesNothing(ROOMS, x -> x.place(0, 5, 9).due(NONE), x -> x.place(20, 5, 9).due(NONE),
            x -> x.place(63, 64, 9).due(NONE));
        changesNothing(state(0, 1, 9), x -> x.place(0, 64, 9).due(NONE));
        placed(state(0, 1, 9), 0, 63, 1);
        changesNothing(state(63, 1, 9), x -> x.place(0, 64, 9).due(NONE));
        placed(state(63, 1, 9), 0, 63, 0);
        int[][] oneFree = state(0, 30, 9, 31, 33, 9);
        changesNothing(oneFree, x -> x.place(0, 2, 9).due(NONE), x -> x.place(30, 2, 9).due(NONE));
        placed(oneFree, 30, 1, 30);
        placed(oneFree, 31, 1, 30);
    }

    private static void placeLength() {
        placed(SOME, 5, 1, 5);
        placed(SOME, 5, 2, 5);
        int[] lengths = {0, -1, -2, -64, -65, LOWEST, LOWEST + 1, LOWEST + 64};
        for (int length : lengths) {
            changesNothing(SOME, x -> x.place(5, length, 9).due(BAD));
            changesNothing(EMPTY, x -> x.place(0, length, 9).due(BAD), x -> x.place(63, length, 9).due(BAD));
        }
    }

    private static void placeHint() {
        placed(SOME, 0, 1, 2);
        placed(SOME, 1, 1, 2);
        placed(SOME, 62, 1, 2);
        placed(SOME, 63, 1, 2);
        placed(SOME, 61, 1, 61);
        int[] hints = {-1, -2, -64, 64, 65, 128, LOWEST, HIGHEST};
        for (int hint : hints) {
            changesNothing(SOME, x -> x.place(hint, 1, 9).due(BAD), x -> x.place(hint, 42, 9).due(BAD));
            changesNothing(EMPTY, x -> x.place(hint, 1, 9).due(BAD), x -> x.place(hint, 64, 9).due(BAD));
        }
    }

    private static void placeKind() {
        leaves(SOME, x -> x.place(30, 2, 0).due(30), swap(SOME, 4, 0, 30, 2, 0));
        leaves(SOME, x -> x.place(30, 2, 1).due(30), swap(SOME, 4, 0, 30, 2, 1));
        leaves(SOME, x -> x.place(30, 2, 126).due(30), swap(SOME, 4, 0, 30, 2, 126));
        leaves(SOME, x -> x.place(30, 2, 127).due(30), swap(SOME, 4, 0, 30, 2, 127));
        int[] kinds = {-1, -2, -8, -128, -129, 128, 129, 255, 256, LOWEST, LOWEST + 9, HIGHEST};
        for (int kind : kinds) {
            changesNothing(SOME, x -> x.place(30, 2, kind).due(BAD), x -> x.place(63, 1, kind).due(BAD));
        }
    }

    // ---- Promise 4: free

    private static void freeProper() {
        forSpans(true, (first, length) -> {
            leaves(ALL, x -> x.free(first, length).due(length), cut(first, length, kind(1, 1), FREE));
            leaves(EMPTY, x -> x.free(first, length).due(0), EMPTY);
        });
    }

    private static void freeNotProper() {
        forSpans(false, (first, length) -> {
            changesNothing(SOME, x -> x.free(first, length).due(BAD));
            changesNothing(ALL, x -> x.free(first, length).due(BAD));
        });
    }

    private static void freeCounts() {
        int[][] two = state(9, 1, 9, 20, 1, 0);
        changesNothing(two, x -> x.free(10, 10).due(0), x -> x.free(0, 9).due(0), x -> x.free(21, 43).due(0));
        leaves(two, x -> x.free(9, 11).due(1), state(20, 1, 0));
        leaves(two, x -> x.free(10, 11).due(1), state(9, 1, 9));
        leaves(two, x -> x.free(9, 12).due(2), EMPTY);
        leaves(two, x -> x.free(9, 1).due(1).free(9, 1).due(0), state(20, 1, 0));
        leaves(SOME, x -> x.free(0, 64).due(14), EMPTY);
    }

    // ---- Promise 5: protect

    private static void protectProper() {
        forSpans(true, (first, length) -> {
            leaves(ALL, x -> x.protect(first, length, 6).due(length), cut(first, length, kind(1, 1), kind(6, 1)));
            changesNothing(ALL, x -> x.protect(first, length, 1).due(0));
        });
    }

    private static void protectNotProper() {
        forSpans(false, (first, length) -> {
            changesNothing(SOME, x -> x.protect(first, length, 5).due(BAD));
            changesNothing(ALL, x -> x.protect(first, length, 5).due(BAD));
        });
    }

    private static void protectRights() {
        leaves(SOME, x -> x.protect(10, 5, 0).due(5), swap(SOME, 1, 1, 10, 5, kind(0, 2)));
        leaves(SOME, x -> x.protect(10, 5, 1).due(5), swap(SOME, 1, 1, 10, 5, kind(1, 2)));
        leaves(SOME, x -> x.protect(10, 5, 6).due(5), swap(SOME, 1, 2, 10, 8, kind(6, 2)));
        leaves(SOME, x -> x.protect(10, 5, 7).due(5), swap(SOME, 1, 1, 10, 5, kind(7, 2)));
        int[] rights = {-1, -2, -8, -6, 8, 9, 10, 15, 16, LOWEST, LOWEST + 2, HIGHEST};
        for (int wrongRights : rights) {
            changesNothing(SOME, x -> x.protect(10, 5, wrongRights).due(BAD),
                x -> x.protect(12, 1, wrongRights).due(BAD));
        }
    }

    private static void protectCounts() {
        changesNothing(SOME, x -> x.protect(10, 5, 2).due(0), x -> x.protect(15, 5, 6).due(0));
        leaves(SOME, x -> x.protect(14, 2, 6).due(1), swap(SOME, 1, 2, 10, 4, kind(2, 2), 14, 4, kind(6, 2)));
        leaves(SOME, x -> x.protect(14, 2, 2).due(1), swap(SOME, 1, 2, 10, 6, kind(2, 2), 16, 2, kind(6, 2)));
        leaves(SOME, x -> x.protect(10, 10, 6).due(5), swap(SOME, 1, 2, 10, 8, kind(6, 2)));
        leaves(SOME, x -> x.protect(10, 10, 2).due(5), swap(SOME, 1, 3, 10, 8, kind(2, 2), 18, 2, kind(2, 4)));
        leaves(SOME, x -> x.protect(10, 10, 1).due(10), swap(SOME, 1, 3, 10, 8, kind(1, 2), 18, 2, kind(1, 4)));
    }

    private static void protectFreePage() {
        changesNothing(SOME, x -> x.protect(9, 1, 3).due(NONE), x -> x.protect(9, 2, 3).due(NONE),
            x -> x.protect(9, 12, 3).due(NONE), x -> x.protect(10, 11, 3).due(NONE), x -> x.protect(19, 2, 3).due(NONE),
            x -> x.protect(20, 1, 3).due(NONE), x -> x.protect(0, 3, 3).due(NONE), x -> x.protect(61, 3, 3).due(NONE),
            x -> x.protect(0, 64, 3).due(NONE));
        int[][] hole = state(0, 30, 9, 31, 33, 9);
        changesNothing(hole, x -> x.protect(0, 64, 3).due(NONE), x -> x.protect(29, 3, 3).due(NONE),
            x -> x.protect(30, 1, 0).due(NONE), x -> x.protect(30, 1, 7).due(NONE), x -> x.protect(0, 31, 1).due(NONE));
        leaves(hole, x -> x.protect(0, 30, 3).due(30), state(0, 30, 11, 31, 33, 9));
        leaves(hole, x -> x.protect(31, 33, 3).due(33), state(0, 30, 9, 31, 33, 11));
        changesNothing(EMPTY, x -> x.protect(0, 1, 0).due(NONE), x -> x.protect(0, 64, 7).due(NONE),
            x -> x.protect(63, 1, 0).due(NONE));
    }

    // ---- Promises 6 to 15: the questions

    private static final int[] NO_PAGES = {-1, -2, -64, 64, 65, 128, LOWEST, HIGHEST};

    private static void rightsOfPage() {
        changesNothing(SOME, x -> x.rights(0).due(1), x -> x.rights(1).due(1), x -> x.rights(2).due(NONE),
            x -> x.rights(9).due(NONE), x -> x.rights(10).due(2), x -> x.rights(61).due(NONE),
            x -> x.rights(63).due(7));
        changesNothing(EMPTY, x -> x.rights(0).due(NONE), x -> x.rights(63).due(NONE));
        for (int page : NO_PAGES) {
            changesNothing(SOME, x -> x.rights(page).due(BAD));
            changesNothing(EMPTY, x -> x.rights(page).due(BAD));
        }
    }

    private static void tagOfPage() {
        changesNothing(SOME, x -> x.tag(0).due(1), x -> x.tag(1).due(1), x -> x.tag(2).due(NONE),
            x -> x.tag(9).due(NONE), x -> x.tag(10).due(2), x -> x.tag(61).due(NONE), x -> x.tag(63).due(15));
        changesNothing(EMPTY, x -> x.tag(0).due(NONE), x -> x.tag(63).due(NONE));
        for (int page : NO_PAGES) {
            changesNothing(SOME, x -> x.tag(page).due(BAD));
            changesNothing(EMPTY, x -> x.tag(page).due(BAD));
        }
    }

    private static void numberOfAreas() {
        changesNothing(EMPTY, x -> x.areas().due(0));
        changesNothing(ALL, x -> x.areas().due(1));
        changesNothing(state(63, 1, 0), x -> x.areas().due(1));
        changesNothing(NINETEEN, x -> x.areas().due(19));
        changesNothing(TWENTY, x -> x.areas().due(20), x -> x.map(63, 1, 0).due(FULL).areas().due(20));
        changesNothing(PACKED, x -> x.areas().due(20), x -> x.free(1, 1).due(FULL).areas().due(20));
    }

    private static void firstOfArea() {
        changesNothing(EMPTY, x -> x.areaFirst(0).due(NONE), x -> x.areaFirst(1).due(NONE),
            x -> x.areaFirst(-1).due(NONE));
        changesNothing(ALL, x -> x.areaFirst(0).due(0), x -> x.areaFirst(1).due(NONE), x -> x.areaFirst(-1).due(NONE));
        changesNothing(SOME, x -> x.areaFirst(0).due(0), x -> x.areaFirst(3).due(18), x -> x.areaFirst(4).due(62),
            x -> x.areaFirst(5).due(NONE), x -> x.areaFirst(LOWEST).due(NONE), x -> x.areaFirst(HIGHEST).due(NONE));
        changesNothing(TWENTY, x -> x.areaFirst(0).due(0), x -> x.areaFirst(18).due(54), x -> x.areaFirst(19).due(57),
            x -> x.areaFirst(20).due(NONE), x -> x.areaFirst(63).due(NONE), x -> x.areaFirst(64).due(NONE));
        changesNothing(PACKED, x -> x.areaFirst(19).due(57), x -> x.areaFirst(20).due(NONE));
        leaves(EMPTY, x -> x.map(40, 1, 9).due(0).map(20, 1, 9).due(0).areaFirst(0).due(20).areaFirst(1).due(40),
            state(20, 1, 9, 40, 1, 9));
    }

    private static void lengthOfArea() {
        changesNothing(EMPTY, x -> x.areaLength(0).due(NONE), x -> x.areaLength(1).due(NONE),
            x -> x.areaLength(-1).due(NONE));
        changesNothing(ALL, x -> x.areaLength(0).due(64), x -> x.areaLength(1).due(NONE),
            x -> x.areaLength(-1).due(NONE));
        changesNothing(SOME, x -> x.areaLength(0).due(2), x -> x.areaLength(3).due(2), x -> x.areaLength(4).due(2),
            x -> x.areaLength(5).due(NONE), x -> x.areaLength(LOWEST).due(NONE), x -> x.areaLength(HIGHEST).due(NONE));
        changesNothing(TWENTY_LONG, x -> x.areaLength(0).due(2), x -> x.areaLength(18).due(2),
            x -> x.areaLength(19).due(7), x -> x.areaLength(20).due(NONE), x -> x.areaLength(63).due(NONE),
            x -> x.areaLength(64).due(NONE));
        changesNothing(state(63, 1, 0), x -> x.areaLength(0).due(1));
        changesNothing(state(0, 1, 0), x -> x.areaLength(0).due(1));
        changesNothing(state(0, 63, 0), x -> x.areaLength(0).due(63));
    }

    private static void areaOfPage() {
        changesNothing(SOME, x -> x.areaOf(0).due(0), x -> x.areaOf(1).due(0), x -> x.areaOf(2).due(NONE),
            x -> x.areaOf(9).due(NONE), x -> x.areaOf(10).due(1), x -> x.areaOf(14).due(1), x -> x.areaOf(15).due(2),
            x -> x.areaOf(17).due(2), x -> x.areaOf(18).due(3), x -> x.areaOf(19).due(3), x -> x.areaOf(20).due(NONE),
            x -> x.areaOf(61).due(NONE), x -> x.areaOf(62).due(4), x -> x.areaOf(63).due(4));
        changesNothing(TWENTY, x -> x.areaOf(58).due(19), x -> x.areaOf(59).due(NONE), x -> x.areaOf(63).due(NONE));
        changesNothing(ALL, x -> x.areaOf(0).due(0), x -> x.areaOf(63).due(0));
        changesNothing(EMPTY, x -> x.areaOf(0).due(NONE), x -> x.areaOf(63).due(NONE));
        for (int page : NO_PAGES) {
            changesNothing(SOME, x -> x.areaOf(page).due(NONE));
            changesNothing(ALL, x -> x.areaOf(page).due(NONE));
        }
    }

    private static void mappedPages() {
        changesNothing(EMPTY, x -> x.mapped().due(0));
        changesNothing(state(0, 1, 0), x -> x.mapped().due(1));
        changesNothing(state(63, 1, 0), x -> x.mapped().due(1));
        changesNothing(state(0, 63, 0), x -> x.mapped().due(63));
        changesNothing(state(1, 63, 0), x -> x.mapped().due(63));
        changesNothing(ALL, x -> x.mapped().due(64));
        changesNothing(TWENTY, x -> x.mapped().due(40), x -> x.map(63, 1, 9).due(FULL).mapped().due(40));
    }

    private static void longestFreeSpan() {
        changesNothing(ALL, x -> x.longestFree().due(0));
        changesNothing(PACKED, x -> x.longestFree().due(0), x -> x.free(1, 1).due(FULL).longestFree().due(0));
        changesNothing(state(1, 63, 0), x -> x.longestFree().due(1));
        changesNothing(state(0, 63, 0), x -> x.longestFree().due(1));
        changesNothing(state(0, 30, 0, 31, 33, 0), x -> x.longestFree().due(1));
        changesNothing(state(0, 1, 0), x -> x.longestFree().due(63));
        changesNothing(state(63, 1, 0), x -> x.longestFree().due(63));
        changesNothing(EMPTY, x -> x.longestFree().due(64));
        changesNothing(state(5, 55, 0), x -> x.longestFree().due(5));
        changesNothing(state(4, 55, 0), x -> x.longestFree().due(5));
        changesNothing(state(5, 54, 0), x -> x.longestFree().due(5));
        changesNothing(ROOMS, x -> x.longestFree().due(4));
    }

    private static void allowsProper() {
        forSpans(true, (first, length) -> {
            int[][] alone = cut(first, length, FREE, kind(5, 3));
            changesNothing(alone, x -> x.allows(first, length, 5).due(true), x -> x.allows(first, length, 0).due(true),
                x -> x.allows(first, length, 2).due(false), x -> x.allows(first - 1, length + 1, 0).due(false),
                x -> x.allows(first, length + 1, 0).due(false));
            int[][] among = cut(first, length, kind(4, 3), kind(5, 3));
            changesNothing(among, x -> x.allows(first, length, 5).due(true), x -> x.allows(first, length, 7).due(false),
                x -> x.allows(first - 1, length + 1, 5).due(false), x -> x.allows(first, length + 1, 5).due(false),
                x -> x.allows(first - 1, length + 1, 4).due(first > 0),
                x -> x.allows(first, length + 1, 4).due(first + length < 64));
        });
    }

    private static void allowsNotProper() {
        int[][] all = state(0, 64, 127);
        forSpans(false, (first, length) -> {
            changesNothing(all, x -> x.allows(first, length, 0).due(false), x -> x.allows(first, length, 7).due(false));
            changesNothing(EMPTY, x -> x.allows(first, length, 0).due(false));
        });
    }

    private static void allowsEachRight() {
        for (int has = 0; has < 8; has++) {
            int[][] pages = state(20, 3, kind(has, 10));
            for (int asked = 0; asked < 8; asked++) {
                int rights = asked;
                boolean due = (has | asked) == has;
                changesNothing(pages, x -> x.allows(20, 3, rights).due(due));
            }
        }
    }

    private static void allowsRights() {
        int[][] all = state(0, 64, 127);
        changesNothing(all, x -> x.allows(0, 64, 0).due(true), x -> x.allows(0, 64, 7).due(true));
        int[] rights = {-1, -2, -8, 8, 9, 15, 120, 127, 128, LOWEST, HIGHEST};
        for (int wrongRights : rights) {
            changesNothing(all, x -> x.allows(0, 64, wrongRights).due(false),
                x -> x.allows(5, 1, wrongRights).due(false));
            changesNothing(EMPTY, x -> x.allows(5, 1, wrongRights).due(false));
        }
    }

    private static void allowsFreePage() {
        changesNothing(SOME, x -> x.allows(9, 1, 0).due(false), x -> x.allows(9, 2, 2).due(false),
            x -> x.allows(10, 10, 2).due(true), x -> x.allows(10, 11, 2).due(false),
            x -> x.allows(10, 10, 4).due(false), x -> x.allows(15, 5, 4).due(true), x -> x.allows(14, 6, 4).due(false),
            x -> x.allows(0, 64, 0).due(false));
        changesNothing(EMPTY, x -> x.allows(0, 1, 0).due(false), x -> x.allows(0, 64, 7).due(false),
            x -> x.allows(63, 1, 7).due(false));
    }

    private static void nextWithFromPage() {
        changesNothing(SOME, x -> x.nextWith(1, LOWEST).due(0), x -> x.nextWith(1, -1).due(0),
            x -> x.nextWith(1, 0).due(0), x -> x.nextWith(1, 1).due(1), x -> x.nextWith(1, 2).due(NONE),
            x -> x.nextWith(2, -64).due(10), x -> x.nextWith(2, 9).due(10), x -> x.nextWith(2, 10).due(10),
            x -> x.nextWith(2, 11).due(11), x -> x.nextWith(2, 15).due(15), x -> x.nextWith(2, 17).due(17),
            x -> x.nextWith(2, 18).due(NONE));
        changesNothing(SOME, x -> x.nextWith(15, LOWEST).due(62), x -> x.nextWith(15, 61).due(62),
            x -> x.nextWith(15, 62).due(62), x -> x.nextWith(15, 63).due(63), x -> x.nextWith(15, 64).due(NONE),
            x -> x.nextWith(15, 65).due(NONE), x -> x.nextWith(15, HIGHEST).due(NONE));
        changesNothing(EMPTY, x -> x.nextWith(0, LOWEST).due(NONE), x -> x.nextWith(0, 0).due(NONE),
            x -> x.nextWith(0, 63).due(NONE), x -> x.nextWith(0, HIGHEST).due(NONE));
        int[][] tagNought = state(40, 2, 0);
        changesNothing(tagNought, x -> x.nextWith(0, 0).due(40), x -> x.nextWith(0, 41).due(41),
            x -> x.nextWith(0, 42).due(NONE), x -> x.nextWith(1, 0).due(NONE));
    }

    // ---- Promise 16

    private static void nextWithTag() {
        int[][] state = state(0, 1, kind(0, 0), 5, 1, kind(7, 1), 30, 1, kind(0, 14), 63, 1, kind(7, 15));
        changesNothing(state, x -> x.nextWith(0, 0).due(0), x -> x.nextWith(1, 0).due(5),
            x -> x.nextWith(14, 0).due(30), x -> x.nextWith(15, 0).due(63));
        int[] tags = {-1, -2, -15, -16, -128, 16, 17, 31, 32, 127, 128, LOWEST, LOWEST + 1, HIGHEST, 1 << 29, 1 << 28};
        int[] pages = {LOWEST, -1, 0, 63, 64, HIGHEST};
        for (int tag : tags) {
            for (int page : pages) {
                changesNothing(state, x -> x.nextWith(tag, page).due(NONE));
                changesNothing(EMPTY, x -> x.nextWith(tag, page).due(NONE));
            }
        }
    }

    private static void placeLengthAbove64() {
        placed(EMPTY, 0, 63, 0);
        placed(EMPTY, 0, 64, 0);
        int[] lengths = {65, 66, 127, 128, 256, 1 << 16, HIGHEST - 63, HIGHEST - 1, HIGHEST};
        for (int length : lengths) {
            changesNothing(EMPTY, x -> x.place(0, length, 9).due(NONE), x -> x.place(1, length, 0).due(NONE),
                x -> x.place(63, length, 127).due(NONE));
            changesNothing(TWENTY, x -> x.place(0, length, 9).due(NONE), x -> x.place(63, length, 9).due(NONE));
        }
    }

    private static void placeOrder() {
        changesNothing(TWENTY, x -> x.place(0, 5, 10).due(FULL), x -> x.place(0, 6, 10).due(NONE),
            x -> x.place(63, 5, 10).due(FULL), x -> x.place(63, 6, 10).due(NONE));
        int[] lengths = {1, 5, 6, 64, 65, HIGHEST};
        for (int length : lengths) {
            changesNothing(TWENTY, x -> x.place(-1, length, 10).due(BAD), x -> x.place(64, length, 10).due(BAD),
                x -> x.place(0, length, -1).due(BAD), x -> x.place(0, length, 128).due(BAD),
                x -> x.place(64, length, 128).due(BAD));
        }
        changesNothing(TWENTY, x -> x.place(0, 0, 10).due(BAD), x -> x.place(0, -1, 10).due(BAD),
            x -> x.place(64, 0, 128).due(BAD));
        changesNothing(ALL, x -> x.place(0, 0, 10).due(BAD), x -> x.place(64, 1, 10).due(BAD),
            x -> x.place(0, 1, 128).due(BAD), x -> x.place(0, 1, 10).due(NONE));
    }

    private static void protectOrder() {
        changesNothing(TWENTY, x -> x.protect(1, 2, 7).due(NONE), x -> x.protect(1, 2, 8).due(BAD),
            x -> x.protect(1, 2, 0).due(NONE), x -> x.protect(1, 2, -1).due(BAD), x -> x.protect(60, 4, 2).due(NONE),
            x -> x.protect(60, 5, 2).due(BAD), x -> x.protect(2, 1, 2).due(NONE), x -> x.protect(2, 0, 2).due(BAD));
        changesNothing(TWENTY, x -> x.protect(1, 1, 7).due(FULL), x -> x.protect(1, 1, 8).due(BAD),
            x -> x.protect(0, 1, 0).due(FULL), x -> x.protect(0, 1, -1).due(BAD), x -> x.protect(-1, 2, 0).due(BAD));
        changesNothing(TWENTY, x -> x.protect(1, 1, 2).due(FULL), x -> x.protect(1, 2, 2).due(NONE),
            x -> x.protect(58, 1, 2).due(FULL), x -> x.protect(58, 2, 2).due(NONE), x -> x.protect(1, 3, 2).due(NONE));
        changesNothing(TWENTY_LONG, x -> x.protect(58, 6, 2).due(FULL), x -> x.protect(58, 7, 2).due(BAD),
            x -> x.protect(56, 6, 2).due(NONE));
    }

    private static void mapOrder() {
        changesNothing(TWENTY, x -> x.map(60, 4, 10).due(FULL), x -> x.map(60, 5, 10).due(BAD),
            x -> x.map(60, 1, 10).due(FULL), x -> x.map(60, 0, 10).due(BAD), x -> x.map(0, 1, 0).due(FULL),
            x -> x.map(0, 1, -1).due(BAD), x -> x.map(0, 1, 127).due(FULL), x -> x.map(0, 1, 128).due(BAD),
            x -> x.map(-1, 2, 10).due(BAD), x -> x.map(64, 1, 10).due(BAD));
    }

    private static void freeOrder() {
        changesNothing(TWENTY_LONG, x -> x.free(58, 5).due(FULL), x -> x.free(58, 7).due(BAD),
            x -> x.free(58, 1).due(FULL), x -> x.free(58, 0).due(BAD), x -> x.free(58, HIGHEST).due(BAD));
        leaves(TWENTY_LONG, x -> x.free(58, 6).due(6), swap(TWENTY, 19, 1, 57, 1, 9));
        int[][] longFirst = swap(PACKED, 0, 1, 0, 3, kind(1, 3));
        changesNothing(longFirst, x -> x.free(1, 1).due(FULL), x -> x.free(-1, 3).due(BAD));
        leaves(longFirst, x -> x.free(0, 1).due(1), swap(PACKED, 0, 1, 1, 2, kind(1, 3)));
    }

    /** Not one call alone but a row of them, with every way to answer BAD, NONE and FULL. */
    private static void refusedInARow() {
        changesNothing(TWENTY, x -> {
            x.map(63, 2, 9).due(BAD).map(63, 1, 9).due(FULL).map(63, 1, 128).due(BAD);
            x.place(64, 1, 9).due(BAD).place(0, 6, 9).due(NONE).place(0, 5, 8).due(FULL).place(0, 0, 9).due(BAD);
            x.free(63, 2).due(BAD).free(0, 0).due(BAD).free(-1, 1).due(BAD);
            x.protect(0, 1, 8).due(BAD).protect(1, 2, 2).due(NONE).protect(1, 1, 2).due(FULL);
            x.protect(0, 65, 2).due(BAD);
            x.rights(64).due(BAD).rights(63).due(NONE).tag(-1).due(BAD).tag(2).due(NONE);
            x.areaFirst(20).due(NONE).areaLength(20).due(NONE).areaOf(64).due(NONE).areaOf(63).due(NONE);
            x.allows(58, 2, 1).due(false).nextWith(16, 0).due(NONE).nextWith(1, 59).due(NONE);
        });
    }

    private static void test(String quote, Runnable body) {
        sentence = quote;
        body.run();
    }

    private static void limits() {
        String limit = "Terms: 'At most 20 areas can be there: a call that would leave more is refused.' ";
        test(limit + "(map, up to 20)", BoundaryTests::mapUpToTwenty);
        test(limit + "(map, still 20)", BoundaryTests::mapStaysAtTwenty);
        test(limit + "(map, fewer)", BoundaryTests::mapBelowTwenty);
        test(limit + "(place, up to 20)", BoundaryTests::placeUpToTwenty);
        test(limit + "(place, still 20 or fewer)", BoundaryTests::placeAtOrBelowTwenty);
        test(limit + "(free, up to 20)", BoundaryTests::freeUpToTwenty);
        test(limit + "(free, still 20 or fewer)", BoundaryTests::freeAtOrBelowTwenty);
        test(limit + "(protect, up to 20)", BoundaryTests::protectUpToTwenty);
        test(limit + "(protect, still 20 or fewer)", BoundaryTests::protectAtOrBelowTwenty);
        test(limit + "(by one kind of call)", BoundaryTests::twentyByOneCall);
        test(limit + "(accepted later)", BoundaryTests::acceptedAfterRefusal);
    }

    private static void terms() {
        String used = "What it is: 'An object is used for at most 512 calls after it has been made' ";
        test(used + "(the last call)", BoundaryTests::for512Calls);
        test(used + "(changes)", BoundaryTests::for512Changes);
        test(used + "(refusals)", BoundaryTests::for512Refusals);
        test(used + "(beyond them)", BoundaryTests::endsAfter512Calls);
        test("Terms: 'There are pages 0 .. 63.'", BoundaryTests::pages);
        test("Terms: 'rights (0 .. 7) and a tag (0 .. 15)'", BoundaryTests::rightsAndTags);
        test("Terms: 'with the same rights and the same tag'", BoundaryTests::areaIsOneKind);
        test("Terms: 'pages that follow each other'", BoundaryTests::areaIsOfPagesThatFollow);
        test("Terms: 'An AREA is a longest span'", BoundaryTests::areaIsLongest);
        test("Terms: 'length is at least 1 and all its pages are 0 .. 63' (the spans tried)",
            BoundaryTests::spansAreTold);
        test("Promise 1: 'All pages are free.'", BoundaryTests::newObject);
        test("Promise 1: 'All pages are free.' (two objects)", BoundaryTests::newObjectBesideAnother);
    }

    private static void changes() {
        test("Promise 2: 'the pages of a span'", BoundaryTests::mapProper);
        test("Promise 2: 'BAD when the span is not proper'", BoundaryTests::mapNotProper);
        test("Promise 2: 'BAD when .. kind is not 0 .. 127'", BoundaryTests::mapKind);
        test("Promise 2: 'the number of pages of it that were mapped before'", BoundaryTests::mapCounts);
        test("Promise 2: 'FULL, changing nothing, when it is refused'", BoundaryTests::mapAboveTwenty);
        test("Promise 3: 'at the least page, from hint on'", BoundaryTests::placeAtLeastRoomFromHint);
        test("Promise 3: 'if there is none from hint on, at the least one of all'",
            BoundaryTests::placeAtLeastRoomOfAll);
        test("Promise 3: 'where there is room' (at the ends)", BoundaryTests::placeAtTheEnds);
        test("Promise 3: 'where there is room' (no wrap-around)", BoundaryTests::placeDoesNotWrapAround);
        test("Promise 3: 'NONE when there is no room'", BoundaryTests::placeNoRoom);
        test("Promise 3: 'BAD when length is below 1'", BoundaryTests::placeLength);
        test("Promise 3: 'BAD when .. hint is not 0 .. 63'", BoundaryTests::placeHint);
        test("Promise 3: 'BAD when .. kind is not 0 .. 127'", BoundaryTests::placeKind);
        test("Promise 3: 'FULL, changing nothing, when it is refused'", BoundaryTests::placeAboveTwenty);
        test("Promise 3: 'FULL' (another room would do)", BoundaryTests::placeTriesOneRoom);
        test("Promise 4: 'Frees the pages of a span.'", BoundaryTests::freeProper);
        test("Promise 4: 'BAD when the span is not proper'", BoundaryTests::freeNotProper);
        test("Promise 4: 'the number of pages of it that were mapped'", BoundaryTests::freeCounts);
        test("Promise 4: 'FULL, changing nothing, when it is refused'", BoundaryTests::freeAboveTwenty);
        test("Promise 5: 'Gives the pages of a span new rights.'", BoundaryTests::protectProper);
        test("Promise 5: 'BAD when the span is not proper'", BoundaryTests::protectNotProper);
        test("Promise 5: 'BAD when .. rights is not 0 .. 7'", BoundaryTests::protectRights);
        test("Promise 5: 'the number of pages that had other rights'", BoundaryTests::protectCounts);
        test("Promise 5: 'NONE, changing nothing, when some page of it is free'", BoundaryTests::protectFreePage);
        test("Promise 5: 'FULL, changing nothing, when it is refused'", BoundaryTests::protectAboveTwenty);
    }

    private static void questions() {
        test("Promise 6: 'NONE when it is free; BAD when it is not 0 .. 63'", BoundaryTests::rightsOfPage);
        test("Promise 7: 'NONE when it is free; BAD when it is not 0 .. 63'", BoundaryTests::tagOfPage);
        test("Promise 8: 'The number of areas.'", BoundaryTests::numberOfAreas);
        test("Promise 9: 'NONE when there is none'", BoundaryTests::firstOfArea);
        test("Promise 10: 'NONE when there is none'", BoundaryTests::lengthOfArea);
        test("Promise 11: 'NONE when it is free or not 0 .. 63'", BoundaryTests::areaOfPage);
        test("Promise 12: 'The number of mapped pages.'", BoundaryTests::mappedPages);
        test("Promise 13: '0 when none is free'", BoundaryTests::longestFreeSpan);
        test("Promise 14: 'all pages of a span'", BoundaryTests::allowsProper);
        test("Promise 14: '(at least) all the rights'", BoundaryTests::allowsEachRight);
        test("Promise 14: 'are mapped'", BoundaryTests::allowsFreePage);
        test("Promise 14: 'false when the span is not proper'", BoundaryTests::allowsNotProper);
        test("Promise 14: 'false when .. rights is not 0 .. 7'", BoundaryTests::allowsRights);
        test("Promise 15: 'NONE when there is none. (page may be any int.)'", BoundaryTests::nextWithFromPage);
    }

    private static void orderAndLimits() {
        test("Promise 16: 'In place BAD is tested first, then NONE, then FULL'", BoundaryTests::placeOrder);
        test("Promise 16: 'a length above 64 has no room: NONE'", BoundaryTests::placeLengthAbove64);
        test("Promise 16: 'In protect BAD is tested first, then NONE, then FULL'", BoundaryTests::protectOrder);
        test("Promise 16: 'in map .. BAD is tested before FULL'", BoundaryTests::mapOrder);
        test("Promise 16: 'in .. free BAD is tested before FULL'", BoundaryTests::freeOrder);
        test("Promise 16: 'BAD and NONE change nothing, either.'", BoundaryTests::refusedInARow);
        test("Promise 16: 'nextWith answers NONE for a tag that is not 0 .. 15.'", BoundaryTests::nextWithTag);
    }

    public static void main(String[] args) {
        terms();
        limits();
        changes();
        questions();
        orderAndLimits();
        System.out.println(cases + " cases, " + wrong + " answers are not as due");
        if (wrong != 0) {
            System.exit(1);
        }
    }
}
