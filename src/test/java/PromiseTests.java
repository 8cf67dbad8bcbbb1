/** A section for each promise of the document: ordinary inputs, the edges it names, and wrong inputs. */
public final class PromiseTests {
    private static final int BAD = -1;
    private static final int FULL = -2;
    private static final int NONE = -3;
    private static final int LOWEST = Integer.MIN_VALUE;
    private static final int HIGHEST = Integer.MAX_VALUE;

    private static int wrong = 0;
    private static String section = "";

    private static void due(String call, int got, int want) {
        if (got != want) {
            wrong++;
            System.out.println(section + ": " + call + " answered " + got + ", due is " + want);
        }
    }

    private static void due(String call, boolean got, boolean want) {
        due(call, got ? 1 : 0, want ? 1 : 0);
    }

    /** The kind of every page (-1 for a free one), to see that a call changed nothing. */
    private static String pages(AreaMap x) {
        StringBuilder text = new StringBuilder();
        for (int page = 0; page < 64; page++) {
            int rights = x.rights(page);
            text.append(rights < 0 ? -1 : rights + 8 * x.tag(page)).append(' ');
        }
        return text.toString();
    }

    private static void same(String call, AreaMap x, String before) {
        String after = pages(x);
        if (!after.equals(before)) {
            wrong++;
            System.out.println(section + ": " + call + " changed the pages from " + before + "to " + after);
        }
    }

    /** 20 areas of two pages each, at 0, 3, .. 57, all of kind 9; pages 59 .. 63 are free. */
    private static AreaMap twenty() {
        AreaMap x = new AreaMap();
        for (int area = 0; area < 20; area++) {
            due("map of area " + area, x.map(3 * area, 2, 9), 0);
        }
        due("areas() of twenty", x.areas(), 20);
        return x;
    }

    private static void newObject() {
        section = "promise 1";
        AreaMap x = new AreaMap();
        for (int page = 0; page < 64; page++) {
            due("rights(" + page + ")", x.rights(page), NONE);
            due("tag(" + page + ")", x.tag(page), NONE);
        }
        due("areas()", x.areas(), 0);
        due("mapped()", x.mapped(), 0);
        due("longestFree()", x.longestFree(), 64);
        x.map(0, 64, 5);
        due("mapped() of another object", new AreaMap().mapped(), 0);
        due("mapped()", x.mapped(), 64);
    }

    private static void map() {
        section = "promise 2";
        AreaMap x = new AreaMap();
        due("map(10, 5, 8 * 6 + 3)", x.map(10, 5, 8 * 6 + 3), 0);
        due("rights(9)", x.rights(9), NONE);
        due("rights(10)", x.rights(10), 3);
        due("tag(14)", x.tag(14), 6);
        due("rights(15)", x.rights(15), NONE);
        due("map over free and mapped pages", x.map(13, 4, 127), 2);
        due("rights(12)", x.rights(12), 3);
        due("rights(13)", x.rights(13), 7);
        due("tag(16)", x.tag(16), 15);
        due("map of what is so already", x.map(13, 4, 127), 4);
        due("map(0, 1, 0)", x.map(0, 1, 0), 0);
        due("rights(0)", x.rights(0), 0);
        due("tag(0)", x.tag(0), 0);
        due("map(63, 1, 1)", x.map(63, 1, 1), 0);
        due("mapped()", x.mapped(), 9);
        due("map(0, 64, 2)", x.map(0, 64, 2), 9);
        due("areas()", x.areas(), 1);
    }

    private static void mapWrong() {
        section = "promise 2, wrong inputs";
        AreaMap x = new AreaMap();
        x.map(5, 5, 20);
        String before = pages(x);
        int[][] spans = wrongSpans();
        for (int[] span : spans) {
            due("map(" + span[0] + ", " + span[1] + ", 1)", x.map(span[0], span[1], 1), BAD);
        }
        int[] kinds = {-1, 128, -128, LOWEST, HIGHEST};
        for (int kind : kinds) {
            due("map(5, 2, " + kind + ")", x.map(5, 2, kind), BAD);
        }
        same("map with BAD", x, before);
    }

    private static int[][] wrongSpans() {
        return new int[][] {
            {-1, 1}, {-1, 2}, {64, 1}, {63, 2}, {0, 65}, {1, 64}, {0, 0}, {63, 0}, {64, 0}, {5, -1}, {64, -1},
            {65, -2}, {HIGHEST, 1}, {LOWEST, 1}, {1, HIGHEST}, {63, HIGHEST}, {HIGHEST, HIGHEST}, {0, LOWEST},
            {63, LOWEST}, {LOWEST, LOWEST}, {LOWEST, HIGHEST}, {HIGHEST, LOWEST}, {-1, LOWEST}, {-64, 65},
        };
    }

    private static void mapFull() {
        section = "promise 2, refused";
        AreaMap x = twenty();
        String before = pages(x);
        due("map(60, 1, 9)", x.map(60, 1, 9), FULL);
        due("map(61, 3, 9)", x.map(61, 3, 9), FULL);
        due("map(2, 1, 10), between two areas", x.map(2, 1, 10), FULL);
        due("map(0, 1, 10), splitting one", x.map(0, 1, 10), FULL);
        due("map(1, 3, 10), ends of two", x.map(1, 3, 10), FULL);
        same("map with FULL", x, before);
        due("map(59, 5, 9), growing the last", x.map(59, 5, 9), 0);
        due("map(0, 2, 10), a whole area", x.map(0, 2, 10), 2);
        due("areas()", x.areas(), 20);
        due("map(5, 1, 9), joining two", x.map(5, 1, 9), 0);
        due("areas()", x.areas(), 19);
        due("map(2, 1, 11), up to twenty", x.map(2, 1, 11), 0);
        due("areas()", x.areas(), 20);
        due("map(11, 1, 9), joining", x.map(11, 1, 9), 0);
        due("map(63, 1, 8), the twentieth", x.map(63, 1, 8), 1);
        due("areas()", x.areas(), 20);
        due("map(61, 1, 8), two more", x.map(61, 1, 8), FULL);
        due("map(0, 64, 8)", x.map(0, 64, 8), 48);
        due("areas()", x.areas(), 1);
    }

    private static void place() {
        section = "promise 3";
        AreaMap x = new AreaMap();
        due("place(10, 4, 8 * 3 + 5)", x.place(10, 4, 8 * 3 + 5), 10);
        due("rights(9)", x.rights(9), NONE);
        due("rights(10)", x.rights(10), 5);
        due("tag(13)", x.tag(13), 3);
        due("rights(14)", x.rights(14), NONE);
        due("place(8, 2, 0), room just before", x.place(8, 2, 0), 8);
        due("place(7, 2, 0), too little before", x.place(7, 2, 0), 14);
        due("place(60, 4, 1), up to the end", x.place(60, 4, 1), 60);
        due("place(50, 11, 2), from the start", x.place(50, 11, 2), 16);
        due("place(63, 8, 127)", x.place(63, 8, 127), 0);
        due("place(0, 33, 1), exactly the room", x.place(0, 33, 1), 27);
        due("place(0, 1, 1), no room", x.place(0, 1, 1), NONE);
        x.free(30, 2);
        x.free(40, 3);
        x.free(50, 2);
        due("place(31, 2, 3), a room cut by hint does not count", x.place(31, 2, 3), 40);
        due("place(0, 4, 1)", x.place(0, 4, 1), NONE);
        due("place(52, 1, 4), the least of all", x.place(52, 1, 4), 30);
        due("place(51, 2, 5), a room over hint", x.place(51, 2, 5), 50);
        due("place(31, 1, 6), at hint", x.place(31, 1, 6), 31);
        due("place(0, 1, 7)", x.place(0, 1, 7), 42);
        due("mapped()", x.mapped(), 64);
    }

    private static void placeOverHint() {
        section = "promise 3, room on both sides of hint";
        AreaMap x = new AreaMap();
        due("map(0, 20, 0)", x.map(0, 20, 0), 0);
        due("map(30, 34, 0)", x.map(30, 34, 0), 0);
        due("place(25, 6, 1)", x.place(25, 6, 1), 20);
        due("free(20, 10)", x.free(20, 10), 6);
        due("place(25, 5, 1)", x.place(25, 5, 1), 25);
        due("place(25, 5, 1)", x.place(25, 5, 1), 20);
        due("place(25, 5, 1)", x.place(25, 5, 1), NONE);
    }

    private static void placeWrong() {
        section = "promise 3, wrong inputs";
        AreaMap x = new AreaMap();
        String before = pages(x);
        int[] lengths = {0, -1, LOWEST};
        for (int length : lengths) {
            due("place(0, " + length + ", 1)", x.place(0, length, 1), BAD);
        }
        int[] hints = {-1, 64, LOWEST, HIGHEST};
        for (int hint : hints) {
            due("place(" + hint + ", 1, 1)", x.place(hint, 1, 1), BAD);
        }
        int[] kinds = {-1, 128, LOWEST, HIGHEST};
        for (int kind : kinds) {
            due("place(0, 1, " + kind + ")", x.place(0, 1, kind), BAD);
        }
        same("place with BAD", x, before);
    }

    private static void placeFull() {
        section = "promise 3, refused";
        AreaMap x = twenty();
        String before = pages(x);
        due("place(0, 1, 10)", x.place(0, 1, 10), FULL);
        due("place(60, 2, 9)", x.place(60, 2, 9), FULL);
        same("place with FULL", x, before);
        due("place(59, 2, 9), growing the last", x.place(59, 2, 9), 59);
        due("place(1, 1, 9), joining two", x.place(1, 1, 9), 2);
        due("areas()", x.areas(), 19);
        due("place(62, 1, 8), the twentieth", x.place(62, 1, 8), 62);
        due("areas()", x.areas(), 20);
        before = pages(x);
        due("place(0, 1, 8), refused at page 5 though page 61 would do", x.place(0, 1, 8), FULL);
        same("place with FULL", x, before);
    }

    private static void free() {
        section = "promise 4";
        AreaMap x = new AreaMap();
        due("free(0, 64) of free pages", x.free(0, 64), 0);
        x.map(10, 10, 9);
        due("free(5, 7)", x.free(5, 7), 2);
        due("rights(11)", x.rights(11), NONE);
        due("tag(11)", x.tag(11), NONE);
        due("rights(12)", x.rights(12), 1);
        due("free(14, 2)", x.free(14, 2), 2);
        due("areas()", x.areas(), 2);
        due("free(13, 4)", x.free(13, 4), 2);
        due("mapped()", x.mapped(), 4);
        x.map(0, 64, 0);
        due("free(0, 1)", x.free(0, 1), 1);
        due("free(63, 1)", x.free(63, 1), 1);
        due("mapped()", x.mapped(), 62);
        String before = pages(x);
        for (int[] span : wrongSpans()) {
            due("free(" + span[0] + ", " + span[1] + ")", x.free(span[0], span[1]), BAD);
        }
        same("free with BAD", x, before);
        due("free(0, 64)", x.free(0, 64), 62);
        due("mapped()", x.mapped(), 0);
    }

    private static void freeFull() {
        section = "promise 4, refused";
        AreaMap x = twenty();
        due("map(59, 5, 9)", x.map(59, 5, 9), 0);
        String before = pages(x);
        due("free(59, 1), splitting the last", x.free(59, 1), FULL);
        due("free(58, 5)", x.free(58, 5), FULL);
        same("free with FULL", x, before);
        due("free(63, 1), the end of one", x.free(63, 1), 1);
        due("free(57, 1), the start of one", x.free(57, 1), 1);
        due("areas()", x.areas(), 20);
        due("free(2, 1), a free page", x.free(2, 1), 0);
        due("free(0, 2), a whole area", x.free(0, 2), 2);
        due("areas()", x.areas(), 19);
        due("free(60, 1), splitting up to twenty", x.free(60, 1), 1);
        due("areas()", x.areas(), 20);
    }

    private static void protect() {
        section = "promise 5";
        AreaMap x = new AreaMap();
        x.map(10, 5, 8 * 4 + 1);
        x.map(15, 5, 8 * 9 + 2);
        due("protect(12, 6, 2)", x.protect(12, 6, 2), 3);
        due("rights(11)", x.rights(11), 1);
        due("rights(12)", x.rights(12), 2);
        due("tag(12)", x.tag(12), 4);
        due("rights(17)", x.rights(17), 2);
        due("tag(17)", x.tag(17), 9);
        due("areas()", x.areas(), 3);
        due("protect(10, 10, 0)", x.protect(10, 10, 0), 10);
        due("rights(19)", x.rights(19), 0);
        due("tag(19)", x.tag(19), 9);
        due("areas()", x.areas(), 2);
        due("protect(10, 10, 0) again", x.protect(10, 10, 0), 0);
        due("protect(10, 1, 7)", x.protect(10, 1, 7), 1);
        due("tag(10)", x.tag(10), 4);
        String before = pages(x);
        due("protect(9, 2, 3), a free page first", x.protect(9, 2, 3), NONE);
        due("protect(19, 2, 3), a free page last", x.protect(19, 2, 3), NONE);
        due("protect(30, 3, 3), all free", x.protect(30, 3, 3), NONE);
        due("protect(0, 64, 3)", x.protect(0, 64, 3), NONE);
        for (int[] span : wrongSpans()) {
            due("protect(" + span[0] + ", " + span[1] + ", 1)", x.protect(span[0], span[1], 1), BAD);
        }
        int[] rights = {-1, 8, 15, LOWEST, HIGHEST};
        for (int right : rights) {
            due("protect(10, 2, " + right + ")", x.protect(10, 2, right), BAD);
        }
        same("protect with BAD or NONE", x, before);
    }

    private static void protectFull() {
        section = "promise 5, refused";
        AreaMap x = twenty();
        String before = pages(x);
        due("protect(0, 1, 2)", x.protect(0, 1, 2), FULL);
        due("protect(58, 1, 7)", x.protect(58, 1, 7), FULL);
        same("protect with FULL", x, before);
        due("protect(0, 1, 1), what it is already", x.protect(0, 1, 1), 0);
        due("protect(0, 2, 2), a whole area", x.protect(0, 2, 2), 2);
        due("free(3, 2)", x.free(3, 2), 2);
        due("protect(7, 1, 2), up to twenty", x.protect(7, 1, 2), 1);
        due("areas()", x.areas(), 20);
        due("protect(6, 2, 2), joining", x.protect(6, 2, 2), 1);
        due("areas()", x.areas(), 19);
    }

    private static void rightsAndTag() {
        AreaMap x = new AreaMap();
        for (int rights = 0; rights < 8; rights++) {
            for (int tag = 0; tag < 16; tag++) {
                section = "promise 6";
                x.map(20, 1, rights + 8 * tag);
                due("rights(20) of " + rights + " and " + tag, x.rights(20), rights);
                section = "promise 7";
                due("tag(20) of " + rights + " and " + tag, x.tag(20), tag);
            }
        }
        x = new AreaMap();
        x.map(0, 1, 8 * 2 + 3);
        x.map(63, 1, 8 * 4 + 5);
        section = "promise 6";
        due("rights(0)", x.rights(0), 3);
        due("rights(63)", x.rights(63), 5);
        due("rights(1)", x.rights(1), NONE);
        section = "promise 7";
        due("tag(0)", x.tag(0), 2);
        due("tag(63)", x.tag(63), 4);
        due("tag(62)", x.tag(62), NONE);
        int[] outside = {-1, 64, LOWEST, HIGHEST};
        for (int page : outside) {
            section = "promise 6";
            due("rights(" + page + ")", x.rights(page), BAD);
            section = "promise 7";
            due("tag(" + page + ")", x.tag(page), BAD);
        }
    }

    private static void areas() {
        section = "promise 8";
        AreaMap x = new AreaMap();
        x.map(0, 3, 9);
        due("areas() with one at page 0", x.areas(), 1);
        x.map(61, 3, 9);
        due("areas() with one at page 63", x.areas(), 2);
        x.map(3, 3, 10);
        due("areas() with other rights beside", x.areas(), 3);
        x.map(6, 3, 18);
        due("areas() with another tag beside", x.areas(), 4);
        x.map(9, 3, 18);
        due("areas() with the same beside", x.areas(), 4);
        x.map(13, 3, 18);
        due("areas() with the same behind a free page", x.areas(), 5);
        x.map(12, 1, 18);
        due("areas() with the free page mapped", x.areas(), 4);
        x.protect(0, 3, 2);
        due("areas() after protect joined two", x.areas(), 3);
        x.free(61, 3);
        due("areas() after free", x.areas(), 2);
    }

    private static void areaNumbers() {
        AreaMap x = new AreaMap();
        x.map(60, 4, 1);
        x.map(20, 5, 2);
        x.map(25, 1, 10);
        x.map(0, 7, 2);
        int[] firsts = {0, 20, 25, 60};
        int[] lengths = {7, 5, 1, 4};
        for (int i = 0; i < 4; i++) {
            section = "promise 9";
            due("areaFirst(" + i + ")", x.areaFirst(i), firsts[i]);
            section = "promise 10";
            due("areaLength(" + i + ")", x.areaLength(i), lengths[i]);
            section = "promise 11";
            due("areaOf, first page of " + i, x.areaOf(firsts[i]), i);
            due("areaOf, last page of " + i, x.areaOf(firsts[i] + lengths[i] - 1), i);
        }
        int[] absent = {-1, 4, 19, 20, 63, 64, LOWEST, HIGHEST};
        for (int i : absent) {
            section = "promise 9";
            due("areaFirst(" + i + ")", x.areaFirst(i), NONE);
            section = "promise 10";
            due("areaLength(" + i + ")", x.areaLength(i), NONE);
        }
        section = "promise 11";
        int[] outside = {7, 19, 26, 59, -1, 64, LOWEST, HIGHEST};
        for (int page : outside) {
            due("areaOf(" + page + ")", x.areaOf(page), NONE);
        }
        AreaMap none = new AreaMap();
        section = "promise 9";
        due("areaFirst(0) of a new object", none.areaFirst(0), NONE);
        section = "promise 10";
        due("areaLength(0) of a new object", none.areaLength(0), NONE);
        section = "promise 11";
        due("areaOf(0) of a new object", none.areaOf(0), NONE);
        none.map(0, 64, 0);
        section = "promise 10";
        due("areaLength(0) of all pages", none.areaLength(0), 64);
    }

    private static void lastOfTwenty() {
        AreaMap x = twenty();
        section = "promise 9";
        due("areaFirst(19)", x.areaFirst(19), 57);
        due("areaFirst(20)", x.areaFirst(20), NONE);
        section = "promise 10";
        due("areaLength(19)", x.areaLength(19), 2);
        due("areaLength(20)", x.areaLength(20), NONE);
        section = "promise 11";
        due("areaOf(58)", x.areaOf(58), 19);
    }

    private static void mapped() {
        section = "promise 12";
        AreaMap x = new AreaMap();
        x.map(0, 1, 0);
        due("mapped(), kind 0 counts", x.mapped(), 1);
        x.map(63, 1, 127);
        due("mapped()", x.mapped(), 2);
        x.place(0, 10, 5);
        due("mapped()", x.mapped(), 12);
        x.protect(0, 11, 0);
        due("mapped() after protect", x.mapped(), 12);
        x.free(5, 3);
        due("mapped() after free", x.mapped(), 9);
        x.map(0, 64, 0);
        due("mapped()", x.mapped(), 64);
    }

    private static void longestFree() {
        section = "promise 13";
        AreaMap x = new AreaMap();
        x.map(20, 1, 0);
        due("longestFree(), at the end", x.longestFree(), 43);
        x.map(43, 1, 0);
        due("longestFree(), in the middle", x.longestFree(), 22);
        x.map(30, 1, 0);
        due("longestFree(), at the start", x.longestFree(), 20);
        x.map(0, 64, 0);
        due("longestFree(), none", x.longestFree(), 0);
        x.free(63, 1);
        due("longestFree(), page 63", x.longestFree(), 1);
        x.free(0, 2);
        due("longestFree(), pages 0 and 1", x.longestFree(), 2);
    }

    private static void allows() {
        section = "promise 14";
        AreaMap x = new AreaMap();
        x.map(10, 3, 8 * 7 + 3);
        x.map(13, 3, 8 * 1 + 6);
        for (int rights = 0; rights < 8; rights++) {
            due("allows(10, 3, " + rights + ")", x.allows(10, 3, rights), (rights & 4) == 0);
            due("allows(13, 3, " + rights + ")", x.allows(13, 3, rights), (rights & 1) == 0);
            due("allows(10, 6, " + rights + ")", x.allows(10, 6, rights), rights == 0 || rights == 2);
            due("allows(9, 2, " + rights + "), a free page first", x.allows(9, 2, rights), false);
            due("allows(15, 2, " + rights + "), a free page last", x.allows(15, 2, rights), false);
            due("allows(30, 1, " + rights + "), a free page", x.allows(30, 1, rights), false);
        }
        x.map(0, 64, 127);
        due("allows(0, 64, 7)", x.allows(0, 64, 7), true);
        due("allows(63, 1, 7)", x.allows(63, 1, 7), true);
        for (int[] span : wrongSpans()) {
            due("allows(" + span[0] + ", " + span[1] + ", 0)", x.allows(span[0], span[1], 0), false);
        }
        int[] rights = {-1, 8, 15, LOWEST, HIGHEST};
        for (int right : rights) {
            due("allows(10, 2, " + right + ")", x.allows(10, 2, right), false);
        }
    }

    private static void nextWith() {
        section = "promise 15";
        AreaMap x = new AreaMap();
        x.map(0, 2, 8 * 5 + 1);
        x.map(10, 3, 8 * 15 + 7);
        x.map(20, 2, 8 * 5 + 2);
        x.map(63, 1, 4);
        due("nextWith(5, 0)", x.nextWith(5, 0), 0);
        due("nextWith(5, 1)", x.nextWith(5, 1), 1);
        due("nextWith(5, 2)", x.nextWith(5, 2), 20);
        due("nextWith(5, 21)", x.nextWith(5, 21), 21);
        due("nextWith(5, 22)", x.nextWith(5, 22), NONE);
        due("nextWith(15, 0)", x.nextWith(15, 0), 10);
        due("nextWith(15, 13)", x.nextWith(15, 13), NONE);
        due("nextWith(0, 0)", x.nextWith(0, 0), 63);
        due("nextWith(0, 63)", x.nextWith(0, 63), 63);
        due("nextWith(0, 64)", x.nextWith(0, 64), NONE);
        due("nextWith(5, -1)", x.nextWith(5, -1), 0);
        due("nextWith(15, LOWEST)", x.nextWith(15, LOWEST), 10);
        due("nextWith(5, HIGHEST)", x.nextWith(5, HIGHEST), NONE);
        due("nextWith(1, 0)", x.nextWith(1, 0), NONE);
        section = "promise 16, nextWith";
        int[] tags = {-1, 16, 32 + 5, -16 + 5, LOWEST, HIGHEST};
        for (int tag : tags) {
            due("nextWith(" + tag + ", 0)", x.nextWith(tag, 0), NONE);
        }
    }

    private static void order() {
        section = "promise 16, order";
        AreaMap x = twenty();
        String before = pages(x);
        due("place(0, 65, 1)", x.place(0, 65, 1), NONE);
        due("place(63, HIGHEST, 1)", x.place(63, HIGHEST, 1), NONE);
        due("place(0, 6, 1), NONE before FULL", x.place(0, 6, 1), NONE);
        due("place(64, 65, 1), BAD before NONE", x.place(64, 65, 1), BAD);
        due("place(-1, 65, 1), BAD before NONE", x.place(-1, 65, 1), BAD);
        due("place(0, 65, 128), BAD before NONE", x.place(0, 65, 128), BAD);
        due("place(0, 6, -1), BAD before NONE", x.place(0, 6, -1), BAD);
        due("place(0, 1, 128), BAD before FULL", x.place(0, 1, 128), BAD);
        due("place(0, 0, 1), BAD before FULL", x.place(0, 0, 1), BAD);
        due("protect(1, 2, 8), BAD before NONE", x.protect(1, 2, 8), BAD);
        due("protect(62, 3, 1), BAD before NONE", x.protect(62, 3, 1), BAD);
        due("protect(0, 1, 8), BAD before FULL", x.protect(0, 1, 8), BAD);
        due("protect(1, 2, 2), NONE before FULL", x.protect(1, 2, 2), NONE);
        due("map(0, 1, 128), BAD before FULL", x.map(0, 1, 128), BAD);
        due("map(61, 4, 1), BAD before FULL", x.map(61, 4, 1), BAD);
        same("a call with BAD or NONE", x, before);
        due("map(59, 5, 9)", x.map(59, 5, 9), 0);
        before = pages(x);
        due("free(60, 5), BAD before FULL", x.free(60, 5), BAD);
        due("free(60, 0), BAD before FULL", x.free(60, 0), BAD);
        same("a call with BAD", x, before);
        AreaMap empty = new AreaMap();
        due("place(0, 64, 1)", empty.place(0, 64, 1), 0);
        due("place(0, 64, 1), no room", empty.place(0, 64, 1), NONE);
    }

    public static void main(String[] args) {
        newObject();
        map();
        mapWrong();
        mapFull();
        place();
        placeOverHint();
        placeWrong();
        placeFull();
        free();
        freeFull();
        protect();
        protectFull();
        rightsAndTag();
        areas();
        areaNumbers();
        lastOfTwenty();
        mapped();
        longestFree();
        allows();
        nextWith();
        order();
        System.out.println(wrong == 0 ? "all answers are as due" : wrong + " answers are not as due");
        if (wrong != 0) {
            System.exit(1);
        }
    }
}
