/** Keeps areas of memory pages with rights, and says where new ones go. */
public final class AreaMap {
    public static final int BAD = -1;
    public static final int FULL = -2;
    public static final int NONE = -3;

    private static final int PAGES = 64;
    private static final int MOST_AREAS = 20;
    private static final int MOST_RIGHTS = 7;
    private static final int MOST_KIND = 127;
    private static final int RIGHTS_BITS = 3;

    // Stands beside the kinds 0 .. 127, so that one number tells all about a page.
    private static final int FREE = -1;

    private final int[] kinds = new int[PAGES];

    // Whether a call is refused shows only in the pages it would leave, so the old ones are kept here.
    private final int[] oldKinds = new int[PAGES];

    public AreaMap() {
        for (int page = 0; page < PAGES; page++) {
            kinds[page] = FREE;
        }
    }

    public int map(int first, int length, int kind) {
        if (!isProper(first, length) || !isKind(kind)) {
            return BAD;
        }
        int mappedBefore = countMapped(first, length);
        return fill(first, length, kind) ? mappedBefore : FULL;
    }

    public int place(int hint, int length, int kind) {
        if (length < 1 || !isPage(hint) || !isKind(kind)) {
            return BAD;
        }
        int first = findRoom(hint, length);
        if (first == NONE) {
            // The pages before hint are the only ones not yet tried, so the least of all is among them.
            first = findRoom(0, length);
        }
        if (first == NONE) {
            return NONE;
        }
        return fill(first, length, kind) ? first : FULL;
    }

    public int free(int first, int length) {
        if (!isProper(first, length)) {
            return BAD;
        }
        int mappedBefore = countMapped(first, length);
        return fill(first, length, FREE) ? mappedBefore : FULL;
    }

    public int protect(int first, int length, int rights) {
        if (!isProper(first, length) || !isRights(rights)) {
            return BAD;
        }
        if (countMapped(first, length) < length) {
            return NONE;
        }
        keepOld();
        int changed = 0;
        for (int page = first; page < first + length; page++) {
            if (rightsIn(kinds[page]) != rights) {
                kinds[page] = withRights(kinds[page], rights);
                changed++;
            }
        }
        return acceptOrUndo() ? changed : FULL;
    }

    public int rights(int page) {
        if (!isPage(page)) {
            return BAD;
        }
        return kinds[page] == FREE ? NONE : rightsIn(kinds[page]);
    }

    public int tag(int page) {
        if (!isPage(page)) {
            return BAD;
        }
        return kinds[page] == FREE ? NONE : tagIn(kinds[page]);
    }

    public int areas() {
        return countAreasTo(PAGES - 1);
    }

    public int areaFirst(int i) {
        int number = -1;
        for (int page = 0; page < PAGES; page++) {
            if (startsArea(page)) {
                number++;
                if (number == i) {
                    return page;
                }
            }
        }
        return NONE;
    }

    public int areaLength(int i) {
        int first = areaFirst(i);
        if (first == NONE) {
            return NONE;
        }
        int end = first + 1;
        while (end < PAGES && kinds[end] == kinds[first]) {
            end++;
        }
        return end - first;
    }

    public int areaOf(int page) {
        if (!isPage(page) || kinds[page] == FREE) {
            return NONE;
        }
        return countAreasTo(page) - 1;
    }

    public int mapped() {
        return countMapped(0, PAGES);
    }

    public int longestFree() {
        int longest = 0;
        int run = 0;
        for (int page = 0; page < PAGES; page++) {
            run = kinds[page] == FREE ? run + 1 : 0;
            if (run > longest) {
                longest = run;
            }
        }
        return longest;
    }

    public boolean allows(int first, int length, int rights) {
        if (!isProper(first, length) || !isRights(rights)) {
            return false;
        }
        for (int page = first; page < first + length; page++) {
            if (kinds[page] == FREE || (kinds[page] & rights) != rights) {
                return false;
            }
        }
        return true;
    }

    public int nextWith(int tag, int page) {
        // A tag that is not 0 .. 15 needs no test of its own: no mapped page bears it.
        for (int at = page < 0 ? 0 : page; at < PAGES; at++) {
            if (kinds[at] != FREE && tagIn(kinds[at]) == tag) {
                return at;
            }
        }
        return NONE;
    }

    private static boolean isPage(int page) {
        return page >= 0 && page < PAGES;
    }

    private static boolean isProper(int first, int length) {
        // first + length could wrap around; PAGES - first can't once first is a page.
        return isPage(first) && length >= 1 && length <= PAGES - first;
    }

    private static boolean isKind(int kind) {
        return kind >= 0 && kind <= MOST_KIND;
    }

    private static boolean isRights(int rights) {
        return rights >= 0 && rights <= MOST_RIGHTS;
    }

    private static int rightsIn(int kind) {
        return kind & MOST_RIGHTS;
    }

    private static int tagIn(int kind) {
        return kind >> RIGHTS_BITS;
    }

    private static int withRights(int kind, int rights) {
        return (kind & ~MOST_RIGHTS) | rights;
    }

    private int countMapped(int first, int length) {
        int count = 0;
        for (int page = first; page < first + length; page++) {
            if (kinds[page] != FREE) {
                count++;
            }
        }
        return count;
    }

    private boolean startsArea(int page) {
        return kinds[page] != FREE && (page == 0 || kinds[page - 1] != kinds[page]);
    }

    private int countAreasTo(int last) {
        int count = 0;
        for (int page = 0; page <= last; page++) {
            if (startsArea(page)) {
                count++;
            }
        }
        return count;
    }

    /** The least page, from the given one on, at which a span of that length is free, or NONE. */
    private int findRoom(int from, int length) {
        int run = 0;
        for (int page = from; page < PAGES; page++) {
            run = kinds[page] == FREE ? run + 1 : 0;
            if (run == length) {
                return page - length + 1;
            }
        }
        return NONE;
    }

    /** Gives the pages of a proper span this kind (or FREE), unless that leaves too many areas. */
    private boolean fill(int first, int length, int kind) {
        keepOld();
        for (int page = first; page < first + length; page++) {
            kinds[page] = kind;
        }
        return acceptOrUndo();
    }

    private void keepOld() {
        for (int page = 0; page < PAGES; page++) {
            oldKinds[page] = kinds[page];
        }
    }

    private boolean acceptOrUndo() {
        if (countAreasTo(PAGES - 1) <= MOST_AREAS) {
            return true;
        }
        for (int page = 0; page < PAGES; page++) {
            kinds[page] = oldKinds[page];
        }
        return false;
    }
}
