public final class CubeViews {
    public static final int BAD_ARG = -1000000;
    public static final int FULL = -2000000;
    public static final int NONE = -4000000;

    private static final int MOST_FACTS = 40;
    private static final int LEAST_AMOUNT = -50;
    private static final int GREATEST_AMOUNT = 50;
    private static final int MOST_ROOM = 200;

    private static final int REGIONS = 4;
    private static final int KINDS = 5;
    private static final int MONTHS = 6;
    private static final int QUARTERS = 2;
    private static final int MONTHS_IN_QUARTER = 3;

    // A place is region + KIND_STEP kind + MONTH_STEP month.
    private static final int KIND_STEP = REGIONS;
    private static final int MONTH_STEP = REGIONS * KINDS;
    private static final int PLACES = REGIONS * KINDS * MONTHS;

    // A filter has a bit for each region, above them one for each kind, above these one for each month.
    private static final int FIRST_KIND_BIT = REGIONS;
    private static final int FIRST_MONTH_BIT = REGIONS + KINDS;
    private static final int FILTERS = 1 << (REGIONS + KINDS + MONTHS);
    private static final int EVERY_FACT = FILTERS - 1;
    private static final int EVERY_REGION = (1 << REGIONS) - 1;
    private static final int EVERY_KIND = ((1 << KINDS) - 1) << FIRST_KIND_BIT;
    private static final int ONE_QUARTER = (1 << MONTHS_IN_QUARTER) - 1;

    private static final int BY_REGION = 1;
    private static final int BY_KIND = 2;
    private static final int BY_MONTH = 4;
    private static final int GROUPINGS = 8;

    // The grouping that parts by nothing has one group, and its packed place is 0.
    private static final int UNPARTED = 0;
    private static final int WHOLE = 0;

    private final int[] places = new int[MOST_FACTS];
    private final int[] amounts = new int[MOST_FACTS];
    private int size;

    public CubeViews() {
        size = 0;
    }

    public int add(int place, int amount) {
        if (place < 0 || place >= PLACES || !isAmount(amount)) {
            return BAD_ARG;
        }
        if (size >= MOST_FACTS) {
            return FULL;
        }
        int number = size;
        places[number] = place;
        amounts[number] = amount;
        size = number + 1;
        return number;
    }

    public int remove() {
        if (size <= 0) {
            return NONE;
        }
        size = size - 1;
        return amounts[size];
    }

    public int change(int i, int amount) {
        if (i < 0 || i >= size || !isAmount(amount)) {
            return BAD_ARG;
        }
        int before = amounts[i];
        amounts[i] = amount;
        return before;
    }

    public int facts() {
        return size;
    }

    public int count(int filter) {
        if (!isFilter(filter)) {
            return BAD_ARG;
        }
        return membersOf(WHOLE, UNPARTED, filter);
    }

    public int sum(int filter) {
        if (!isFilter(filter)) {
            return BAD_ARG;
        }
        return totalOf(WHOLE, UNPARTED, filter);
    }

    public int greatest(int filter) {
        if (!isFilter(filter)) {
            return BAD_ARG;
        }
        int best = NONE;
        for (int i = 0; i < size; i++) {
            // NONE is below every amount, so the first fact that passes always takes its place.
            if (passes(places[i], filter) && amounts[i] > best) {
                best = amounts[i];
            }
        }
        return best;
    }

    public int groups(int grouping, int filter) {
        if (!isGrouping(grouping) || !isFilter(filter)) {
            return BAD_ARG;
        }
        int found = 0;
        for (int group = 0; group < PLACES; group++) {
            if (membersOf(group, grouping, filter) > 0) {
                found++;
            }
        }
        return found;
    }

    public int topSum(int grouping, int filter) {
        if (!isGrouping(grouping) || !isFilter(filter)) {
            return BAD_ARG;
        }
        int group = firstBestGroup(grouping, filter);
        if (group == NONE) {
            return NONE;
        }
        return totalOf(group, grouping, filter);
    }

    public int topGroup(int grouping, int filter) {
        if (!isGrouping(grouping) || !isFilter(filter)) {
            return BAD_ARG;
        }
        return firstBestGroup(grouping, filter);
    }

    public int quarter(int q, int region) {
        if (q < 0 || q >= QUARTERS || region < 0 || region >= REGIONS) {
            return BAD_ARG;
        }
        int months = ONE_QUARTER << (FIRST_MONTH_BIT + MONTHS_IN_QUARTER * q);
        int filter = (1 << region) | EVERY_KIND | months;
        return totalOf(WHOLE, UNPARTED, filter);
    }

    public int growth(int m) {
        if (m < 1 || m >= MONTHS) {
            return BAD_ARG;
        }
        return totalOfMonth(m) - totalOfMonth(m - 1);
    }

    public int atLeast(int grouping, int x) {
        if (!isGrouping(grouping)) {
            return BAD_ARG;
        }
        int found = 0;
        for (int group = 0; group < PLACES; group++) {
            if (membersOf(group, grouping, EVERY_FACT) > 0 && totalOf(group, grouping, EVERY_FACT) >= x) {
                found++;
            }
        }
        return found;
    }

    public int plan(int room) {
        if (room < 0 || room > MOST_ROOM) {
            return BAD_ARG;
        }
        // The choice is to keep no summary, which fits every room: 40 facts are few enough to read anew for
        // each answer, and a summary that isn't kept can't disagree with the facts.
        return 0;
    }

    private static boolean isAmount(int amount) {
        return amount >= LEAST_AMOUNT && amount <= GREATEST_AMOUNT;
    }

    private static boolean isFilter(int filter) {
        return filter >= 0 && filter < FILTERS;
    }

    private static boolean isGrouping(int grouping) {
        return grouping >= 0 && grouping < GROUPINGS;
    }

    private static int regionOf(int place) {
        return place % REGIONS;
    }

    private static int kindOf(int place) {
        return place / KIND_STEP % KINDS;
    }

    private static int monthOf(int place) {
        return place / MONTH_STEP;
    }

    private static boolean passes(int place, int filter) {
        int region = 1 << regionOf(place);
        int kind = 1 << (FIRST_KIND_BIT + kindOf(place));
        int month = 1 << (FIRST_MONTH_BIT + monthOf(place));
        int needed = region | kind | month;
        return (filter & needed) == needed;
    }

    // A group is named by the place of its facts, with 0 for each dimension that the grouping leaves out.
    private static int groupOf(int place, int grouping) {
        int group = 0;
        if ((grouping & BY_REGION) != 0) {
            group += regionOf(place);
        }
        if ((grouping & BY_KIND) != 0) {
            group += KIND_STEP * kindOf(place);
        }
        if ((grouping & BY_MONTH) != 0) {
            group += MONTH_STEP * monthOf(place);
        }
        return group;
    }

    private int membersOf(int group, int grouping, int filter) {
        int members = 0;
        for (int i = 0; i < size; i++) {
            if (passes(places[i], filter) && groupOf(places[i], grouping) == group) {
                members++;
            }
        }
        return members;
    }

    private int totalOf(int group, int grouping, int filter) {
        int total = 0;
        for (int i = 0; i < size; i++) {
            if (passes(places[i], filter) && groupOf(places[i], grouping) == group) {
                total += amounts[i];
            }
        }
        return total;
    }

    private int totalOfMonth(int month) {
        int filter = EVERY_REGION | EVERY_KIND | (1 << (FIRST_MONTH_BIT + month));
        return totalOf(WHOLE, UNPARTED, filter);
    }

    private int firstBestGroup(int grouping, int filter) {
        int best = NONE;
        int bestTotal = 0;
        for (int group = 0; group < PLACES; group++) {
            if (membersOf(group, grouping, filter) > 0) {
                int total = totalOf(group, grouping, filter);
                // Only a greater total takes over, so that of equal ones the least group stays.
                if (best == NONE || total > bestTotal) {
                    best = group;
                    bestTotal = total;
                }
            }
        }
        return best;
    }
}
