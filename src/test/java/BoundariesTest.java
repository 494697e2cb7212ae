import java.util.ArrayList;
import java.util.List;

// One test for each sentence of the document that names a boundary case; main lists the sentences in its order.
public final class BoundariesTest {
    private static final int BAD_ARG = -1000000;
    private static final int FULL = -2000000;
    private static final int NONE = -4000000;
    private static final int LEAST = Integer.MIN_VALUE;
    private static final int GREATEST = Integer.MAX_VALUE;
    private static final int ALL = 32767;
    private static final int MOST_CALLS = 512;

    // Facts as {place, amount}. SOME: sums by region are 8, -6, none, 8; no fact has region 2.
    private static final int[][] EMPTY = {};
    private static final int[][] ONE = {{119, -50}};
    private static final int[][] SOME = {{0, 10}, {40, -2}, {69, -9}, {69, 3}, {119, 20}, {99, -12}};
    private static final int[][] FORTY = forty();
    private static final int[][][] STATES = {EMPTY, ONE, SOME, FORTY};

    private static String sentence = "";
    private static int sentences = 0;
    private static int wrong = 0;
    private static int wrongInSentence = 0;

    private static int[][] forty() {
        int[][] facts = new int[40][];
        for (int i = 0; i < 40; i++) {
            facts[i] = new int[] {i * 37 % 120, i * 29 % 101 - 50};
        }
        return facts;
    }

    private static int[][] same(int many, int place, int amount) {
        int[][] facts = new int[many][];
        for (int i = 0; i < many; i++) {
            facts[i] = new int[] {place, amount};
        }
        return facts;
    }

    private static void fail(String what) {
        wrong++;
        wrongInSentence++;
        // A broken sentence can fail in thousands of places, and the first few tell enough.
        if (wrongInSentence <= 5) {
            System.out.println("\"" + sentence + "\": " + what);
        }
    }

    // An object under test: names its calls, catches what they throw and keeps to the 512 calls of the document.
    private static final class Cube {
        private final CubeViews x = new CubeViews();
        private int calls = 0;

        Cube(int[][] facts) {
            for (int i = 0; i < facts.length; i++) {
                due(i, "add", facts[i]);
            }
        }

        int ask(String call, int... a) {
            calls++;
            if (calls > MOST_CALLS) {
                fail("the test itself makes call " + calls + " on one object");
            }
            try {
                return answer(call, a);
            } catch (Throwable thrown) {
                fail(text(call, a) + " threw " + thrown);
                return 0;
            }
        }

        private int answer(String call, int[] a) {
            switch (call) {
                case "add": return x.add(a[0], a[1]);
                case "remove": return x.remove();
                case "change": return x.change(a[0], a[1]);
                case "facts": return x.facts();
                case "count": return x.count(a[0]);
                case "sum": return x.sum(a[0]);
                case "greatest": return x.greatest(a[0]);
                case "groups": return x.groups(a[0], a[1]);
                case "topSum": return x.topSum(a[0], a[1]);
                case "topGroup": return x.topGroup(a[0], a[1]);
                case "quarter": return x.quarter(a[0], a[1]);
                case "growth": return x.growth(a[0]);
                case "atLeast": return x.atLeast(a[0], a[1]);
                case "plan": return x.plan(a[0]);
                default: throw new IllegalArgumentException("no such call");
            }
        }

        void due(int want, String call, int... a) {
            int got = ask(call, a);
            if (got != want) {
                fail("call " + calls + ", " + text(call, a) + " answered " + got + ", due is " + want);
            }
        }

        // Looks at everything that calls can show of these facts; no fact is left afterwards.
        void dueFacts(int[][] facts) {
            dueSameViews(new Cube(facts));
            for (int left = facts.length; left > 0; left--) {
                int[] last = facts[left - 1];
                due(left, "facts");
                due(manyAt(last[0], facts, left), "count", only(last[0]));
                due(last[1], "remove");
            }
            due(0, "facts");
            due(0, "count", ALL);
            due(NONE, "remove");
            due(0, "add", 5, 7);
            due(7, "sum", only(5));
        }

        private void dueSameViews(Cube other) {
            for (int[] filter : new int[][] {{ALL}, {filter(1, 31, 63)}, {filter(15, 3, 63)}, {filter(15, 31, 56)}}) {
                dueAsIn(other, "count", filter);
                dueAsIn(other, "sum", filter);
                dueAsIn(other, "greatest", filter);
            }
            for (int grouping = 0; grouping < 8; grouping++) {
                dueAsIn(other, "groups", grouping, ALL);
                dueAsIn(other, "topSum", grouping, ALL);
                dueAsIn(other, "topGroup", grouping, ALL);
                dueAsIn(other, "atLeast", grouping, 0);
            }
            for (int n = 0; n < 8; n++) {
                dueAsIn(other, "quarter", n / 4, n % 4);
            }
            for (int m = 1; m < 6; m++) {
                dueAsIn(other, "growth", m);
            }
        }

        private void dueAsIn(Cube other, String call, int... a) {
            due(other.ask(call, a), call, a);
        }
    }

    private static String text(String call, int[] a) {
        StringBuilder text = new StringBuilder(call + "(");
        for (int i = 0; i < a.length; i++) {
            text.append(i == 0 ? "" : ", ").append(a[i]);
        }
        return text + ")";
    }

    private static int manyAt(int place, int[][] facts, int first) {
        int many = 0;
        for (int i = 0; i < first; i++) {
            if (facts[i][0] == place) {
                many++;
            }
        }
        return many;
    }

    private static int place(int region, int kind, int month) {
        return region + 4 * kind + 20 * month;
    }

    private static int filter(int regions, int kinds, int months) {
        return regions + 16 * kinds + 512 * months;
    }

    private static int only(int place) {
        return filter(1 << place % 4, 1 << place / 4 % 5, 1 << place / 20);
    }

    private static int groupOf(int place, int grouping) {
        return place(place % 4 * (grouping & 1), place / 4 % 5 * (grouping >> 1 & 1), place / 20 * (grouping >> 2));
    }

    // Numbers outside of a range: next to its ends, at the ends of int, of the other sign, and such as come back into
    // the range when their upper bits are lost.
    private static int[] outside(int low, int high) {
        List<Integer> candidates = new ArrayList<>(List.of(low - 1, low - 2, high + 1, high + 2, -low, -high,
                ~low, ~high, LEAST, LEAST + 1, GREATEST, GREATEST - 1, BAD_ARG, FULL, NONE));
        for (int bit : new int[] {3, 4, 7, 8, 9, 15, 16, 24, 30, 31}) {
            for (int end : new int[] {low, high, (low + high) / 2}) {
                candidates.add(end + (1 << bit));
                candidates.add(end - (1 << bit));
            }
        }
        return candidates.stream().mapToInt(n -> n).filter(n -> n < low || n > high).distinct().toArray();
    }

    // A refused call answers the code and changes nothing, whatever facts there are.
    private static void refused(int code, int[][] facts, String call, int... a) {
        Cube x = new Cube(facts);
        x.due(code, call, a);
        x.dueFacts(facts);
    }

    private static void refusedInEveryState(int code, String call, int... a) {
        for (int[][] facts : STATES) {
            refused(code, facts, call, a);
        }
    }

    // ---- What it is

    // Each call comes as the 512th: after facts came and went, after other questions, and after itself alone.
    private static void calls512() {
        String[] calls = {"facts", "count", "sum", "greatest", "groups", "topSum", "topGroup", "quarter", "growth",
                "atLeast", "plan", "add", "remove", "change"};
        int[][] arguments = {{}, {ALL}, {ALL}, {ALL}, {4, ALL}, {4, ALL}, {4, ALL}, {1, 3}, {5},
                {4, 0}, {200}, {119, 50}, {}, {5, -12}};
        int[] answers = {6, 6, 10, 20, 5, 20, 100, 8, 32, 2, 0, 6, -12, -12};
        int questions = 11;
        for (int i = 0; i < calls.length; i++) {
            Cube busy = new Cube(SOME);
            while (busy.calls < MOST_CALLS - 2) {
                busy.due(6, "add", 60, 50);
                busy.due(50, "remove");
            }
            busy.due(6, "facts");
            busy.due(answers[i], calls[i], arguments[i]);

            Cube asked = new Cube(SOME);
            while (asked.calls < MOST_CALLS - 1) {
                int n = asked.calls % questions;
                asked.due(answers[n], calls[n], arguments[n]);
            }
            asked.due(answers[i], calls[i], arguments[i]);

            boolean repeats = i < questions || calls[i].equals("change");
            Cube repeated = new Cube(SOME);
            while (repeats && repeated.calls < MOST_CALLS) {
                repeated.due(answers[i], calls[i], arguments[i]);
            }
        }
        Cube refusing = new Cube(EMPTY);
        while (refusing.calls < MOST_CALLS - 1) {
            refusing.due(BAD_ARG, "add", 120, 0);
        }
        refusing.due(0, "add", 119, 0);
    }

    // ---- Terms

    private static void rangesOfPlaces() {
        for (int region = 0; region < 4; region++) {
            for (int kind = 0; kind < 5; kind++) {
                for (int month = 0; month < 6; month++) {
                    Cube x = new Cube(new int[][] {{place(region, kind, month), 1}});
                    for (int n = 0; n < 6; n++) {
                        x.due(n == region ? 1 : 0, "count", filter(n < 4 ? 1 << n : 0, 31, 63));
                        x.due(n == kind ? 1 : 0, "count", filter(15, n < 5 ? 1 << n : 0, 63));
                        x.due(n == month ? 1 : 0, "count", filter(15, 31, 1 << n));
                    }
                }
            }
        }
    }

    private static void rangeOfAmounts() {
        for (int amount = -50; amount <= 50; amount++) {
            Cube x = new Cube(EMPTY);
            x.due(0, "add", 7, amount);
            x.due(1, "add", 9, 0);
            x.due(0, "change", 1, amount);
            x.due(2 * amount, "sum", ALL);
            x.due(amount, "greatest", ALL);
            x.due(amount, "remove");
            x.due(amount, "remove");
        }
    }

    private static void atMost40() {
        Cube x = new Cube(EMPTY);
        for (int i = 0; i < 40; i++) {
            x.due(i, "facts");
            x.due(i, "add", FORTY[i]);
        }
        x.due(40, "facts");
        x.due(40, "count", ALL);
        for (int i = 0; i < 40; i++) {
            x.due(FULL, "add", FORTY[i]);
        }
        x.dueFacts(FORTY);
    }

    private static void numbersInOrder() {
        Cube x = new Cube(FORTY);
        for (int i = 0; i < 40; i++) {
            x.due(FORTY[i][1], "change", i, i);
        }
        for (int i = 39; i >= 20; i--) {
            x.due(i, "remove");
        }
        for (int i = 20; i < 40; i++) {
            x.due(i, "add", i, -i);
        }
        for (int i = 0; i < 40; i++) {
            x.due(i < 20 ? i : -i, "change", i, 0);
        }
    }

    private static void quartersOfMonths() {
        for (int month = 0; month < 6; month++) {
            for (int region = 0; region < 4; region++) {
                Cube x = new Cube(new int[][] {{place(region, 2, month), 5}});
                for (int other = 0; other < 4; other++) {
                    x.due(month <= 2 && other == region ? 5 : 0, "quarter", 0, other);
                    x.due(month >= 3 && other == region ? 5 : 0, "quarter", 1, other);
                }
            }
        }
    }

    private static void endsOfTheSets() {
        Cube x = new Cube(SOME);
        int[] none = {0, 15, filter(0, 31, 0), filter(0, 0, 63), filter(0, 31, 63), filter(15, 0, 63),
                filter(15, 31, 0)};
        for (int filter : none) {
            x.due(0, "count", filter);
        }
        x.due(6, "count", filter(15, 31, 63));
        x.due(4, "count", filter(14, 31, 63));
        x.due(4, "count", filter(7, 31, 63));
        x.due(2, "count", filter(1, 31, 63));
        x.due(2, "count", filter(8, 31, 63));
        x.due(4, "count", filter(15, 30, 63));
        x.due(4, "count", filter(15, 15, 63));
        x.due(2, "count", filter(15, 1, 63));
        x.due(2, "count", filter(15, 16, 63));
        x.due(5, "count", filter(15, 31, 62));
        x.due(5, "count", filter(15, 31, 31));
        x.due(1, "count", filter(15, 31, 1));
        x.due(1, "count", filter(15, 31, 32));
    }

    private static void everyFilter() {
        int filter = 0;
        while (filter <= ALL) {
            Cube x = new Cube(FORTY);
            while (filter <= ALL && x.calls <= MOST_CALLS - 3) {
                dueOfFilter(x, filter);
                filter++;
            }
        }
    }

    private static void dueOfFilter(Cube x, int filter) {
        int count = 0;
        int sum = 0;
        int greatest = NONE;
        for (int[] fact : FORTY) {
            boolean region = (filter % 16 >> fact[0] % 4) % 2 == 1;
            boolean kind = (filter / 16 % 32 >> fact[0] / 4 % 5) % 2 == 1;
            boolean month = (filter / 512 >> fact[0] / 20) % 2 == 1;
            if (region && kind && month) {
                count++;
                sum += fact[1];
                greatest = Math.max(greatest, fact[1]);
            }
        }
        x.due(count, "count", filter);
        x.due(sum, "sum", filter);
        x.due(greatest, "greatest", filter);
    }

    private static void passesInAllThree() {
        for (int place = 0; place < 120; place++) {
            Cube x = new Cube(new int[][] {{place, 1}});
            int own = only(place);
            x.due(1, "count", own);
            x.due(0, "count", ALL - own);
            for (int bit = 0; bit < 15; bit++) {
                boolean needed = (own >> bit) % 2 == 1;
                x.due(needed ? 0 : 1, "count", ALL - (1 << bit));
                x.due(needed ? 0 : 1, "count", own ^ (1 << bit));
            }
        }
    }

    private static void everyGrouping() {
        int[] groups = {1, 2, 2, 4, 2, 4, 4, 8};
        int[][] corners = new int[8][];
        for (int n = 0; n < 8; n++) {
            corners[n] = new int[] {place(n % 2 * 3, n / 2 % 2 * 4, n / 4 * 5), 1};
        }
        Cube x = new Cube(corners);
        for (int grouping = 0; grouping < 8; grouping++) {
            x.due(groups[grouping], "groups", grouping, ALL);
            x.due(8 / groups[grouping], "topSum", grouping, ALL);
            x.due(groups[grouping], "atLeast", grouping, 8 / groups[grouping]);
            x.due(0, "atLeast", grouping, 8 / groups[grouping] + 1);
        }
    }

    // Two facts are in one group exactly if they agree in all the dimensions by which the grouping parts.
    private static void agreeInAll() {
        for (int first = 0; first < 120; first += 7) {
            for (int second = 0; second < 120; second++) {
                Cube x = new Cube(new int[][] {{first, 1}, {second, 1}});
                for (int grouping = 0; grouping < 8; grouping++) {
                    boolean one = groupOf(first, grouping) == groupOf(second, grouping);
                    x.due(one ? 1 : 2, "groups", grouping, ALL);
                    x.due(one ? 2 : 1, "topSum", grouping, ALL);
                }
            }
        }
    }

    private static void planIsUnseen() {
        int[][] rooms = {{0}, {1}, {60}, {119}, {120}, {199}, {200}};
        for (int[][] facts : STATES) {
            for (int[] room : rooms) {
                Cube after = new Cube(facts);
                after.due(0, "plan", room);
                after.dueFacts(facts);
                Cube before = new Cube(EMPTY);
                before.due(0, "plan", room);
                for (int i = 0; i < facts.length; i++) {
                    before.due(i, "add", facts[i]);
                }
                before.dueFacts(facts);
            }
        }
        for (int step = 1; step <= 200; step += 6) {
            planBetweenAllCalls(step);
        }
    }

    private static void planBetweenAllCalls(int step) {
        Cube planned = new Cube(FORTY);
        Cube plain = new Cube(FORTY);
        for (int n = 0; n < 90; n++) {
            planned.due(0, "plan", n * step % 201);
            String call = n % 3 == 0 ? "change" : n % 3 == 1 ? "topGroup" : "sum";
            int[] a = n % 3 == 0 ? new int[] {n % 40, 50 - n} : n % 3 == 1 ? new int[] {n / 3 % 8, ALL - n}
                    : new int[] {ALL - n * step};
            planned.dueAsIn(plain, call, a);
            if (n % 10 == 0) {
                planned.dueAsIn(plain, "remove");
            }
        }
        planned.dueSameViews(plain);
    }

    private static void neverThrows() {
        askTheGrid(false);
    }

    private static void badArgOnlyOutOfRange() {
        askTheGrid(true);
    }

    // Every call with the ends of every range and of int, on an object without facts, with some and with 40.
    private static void askTheGrid(boolean compare) {
        int[] edges = {LEAST, LEAST + 1, NONE, -32768, -256, -51, -50, -1, 0, 1, 2, 3, 4, 5, 6, 7, 8, 39, 40, 50, 51,
                119, 120, 200, 201, 32767, 32768, 65536, GREATEST - 1, GREATEST};
        for (int[][] facts : new int[][][] {EMPTY, SOME, FORTY}) {
            for (int a : edges) {
                for (int b : edges) {
                    askAll(facts, a, b, compare);
                }
            }
        }
    }

    private static void askAll(int[][] facts, int a, int b, boolean compare) {
        boolean filter = in(a, 0, ALL);
        boolean views = in(a, 0, 7) && in(b, 0, ALL);
        String[] calls = {"count", "sum", "greatest", "groups", "topSum", "topGroup", "quarter", "growth", "atLeast",
                "plan", "change", "add"};
        boolean[] good = {filter, filter, filter, views, views, views, in(a, 0, 1) && in(b, 0, 3), in(a, 1, 5),
                in(a, 0, 7), in(a, 0, 200), in(a, 0, facts.length - 1) && in(b, -50, 50),
                in(a, 0, 119) && in(b, -50, 50)};
        Cube x = new Cube(facts);
        for (int i = 0; i < calls.length; i++) {
            boolean accepted = x.ask(calls[i], a, b) != BAD_ARG;
            if (compare && accepted != good[i]) {
                fail(text(calls[i], new int[] {a, b}) + (accepted ? " was not BAD_ARG" : " was BAD_ARG"));
            }
        }
        x.ask("remove");
        x.ask("facts");
    }

    private static boolean in(int n, int low, int high) {
        return n >= low && n <= high;
    }

    private static void refusedChangesNothing() {
        String[] calls = {"add", "add", "change", "change", "count", "sum", "greatest", "groups", "groups", "topSum",
                "topSum", "topGroup", "topGroup", "quarter", "quarter", "growth", "growth", "atLeast", "plan", "plan"};
        int[][] arguments = {{120, 1}, {1, 51}, {40, 1}, {0, -51}, {-1}, {32768}, {-1}, {8, ALL}, {7, -1}, {-1, ALL},
                {0, 32768}, {8, ALL}, {7, 32768}, {2, 0}, {0, 4}, {0}, {6}, {8, 0}, {-1}, {201}};
        for (int[][] facts : STATES) {
            Cube x = new Cube(facts);
            for (int i = 0; i < calls.length; i++) {
                refused(BAD_ARG, facts, calls[i], arguments[i]);
                x.due(BAD_ARG, calls[i], arguments[i]);
            }
            x.dueFacts(facts);
        }
    }

    private static void constants() {
        if (CubeViews.BAD_ARG != BAD_ARG || CubeViews.FULL != FULL || CubeViews.NONE != NONE) {
            fail("a constant has another value");
        }
    }

    // ---- Promise 1

    private static void newObjectIsEmpty() {
        new Cube(EMPTY).due(0, "facts");
        new Cube(EMPTY).due(NONE, "remove");
        new Cube(EMPTY).due(BAD_ARG, "change", 0, 0);
        new Cube(EMPTY).due(0, "add", 0, 0);
        Cube full = new Cube(FORTY);
        Cube x = new Cube(EMPTY);
        x.due(0, "count", ALL);
        x.due(0, "sum", ALL);
        x.due(NONE, "greatest", ALL);
        for (int grouping = 0; grouping < 8; grouping++) {
            x.due(0, "groups", grouping, ALL);
            x.due(NONE, "topSum", grouping, ALL);
            x.due(NONE, "topGroup", grouping, ALL);
            x.due(0, "atLeast", grouping, LEAST);
            x.due(0, "quarter", grouping / 4, grouping % 4);
        }
        for (int m = 1; m <= 5; m++) {
            x.due(0, "growth", m);
        }
        x.dueFacts(EMPTY);
        full.dueFacts(FORTY);
    }

    // ---- Promise 2

    private static void placeOutOfRange() {
        for (int place : outside(0, 119)) {
            refusedInEveryState(BAD_ARG, "add", place, 0);
        }
        for (int place = -300; place <= 300; place++) {
            new Cube(EMPTY).due(in(place, 0, 119) ? 0 : BAD_ARG, "add", place, 0);
        }
    }

    private static void amountOutOfRange() {
        for (int amount : outside(-50, 50)) {
            refusedInEveryState(BAD_ARG, "add", 0, amount);
        }
        for (int amount = -300; amount <= 300; amount++) {
            new Cube(EMPTY).due(in(amount, -50, 50) ? 0 : BAD_ARG, "add", 119, amount);
        }
    }

    private static void addToForty() {
        int[][] more = {{0, 0}, {119, 50}, {119, -50}, {60, 1}};
        for (int[] fact : more) {
            refused(FULL, FORTY, "add", fact);
            refused(FULL, same(40, 0, 0), "add", fact);
            Cube x = new Cube(same(39, 1, 1));
            x.due(39, "add", fact);
            x.due(FULL, "add", fact);
            x.due(fact[1], "remove");
            x.due(39, "add", fact);
            x.due(FULL, "add", fact);
        }
    }

    private static void badArgBeforeFull() {
        for (int place : outside(0, 119)) {
            refused(BAD_ARG, FORTY, "add", place, 50);
            refused(BAD_ARG, FORTY, "add", place, -51);
        }
        for (int amount : outside(-50, 50)) {
            refused(BAD_ARG, FORTY, "add", 119, amount);
            refused(BAD_ARG, FORTY, "add", 120, amount);
        }
    }

    // ---- Promise 3

    private static void removeOfNone() {
        refused(NONE, EMPTY, "remove");
        Cube x = new Cube(FORTY);
        for (int i = 39; i >= 0; i--) {
            x.due(FORTY[i][1], "remove");
        }
        x.due(NONE, "remove");
        x.due(NONE, "remove");
        x.dueFacts(EMPTY);
    }

    private static void removeTakesTheHighest() {
        for (int many = 1; many <= 40; many++) {
            Cube x = new Cube(FORTY);
            for (int i = 39; i >= many; i--) {
                x.due(FORTY[i][1], "remove");
            }
            int[][] left = new int[many][];
            System.arraycopy(FORTY, 0, left, 0, many);
            x.dueFacts(left);
        }
    }

    // ---- Promise 4

    private static void changeOfNoFact() {
        for (int[][] facts : STATES) {
            for (int i : outside(0, facts.length - 1)) {
                refused(BAD_ARG, facts, "change", i, 1);
            }
        }
        for (int many = 0; many <= 40; many++) {
            Cube x = new Cube(same(many, 3, 3));
            for (int i = -2; i <= 42; i++) {
                x.due(in(i, 0, many - 1) ? 3 : BAD_ARG, "change", i, 4);
            }
        }
        Cube x = new Cube(SOME);
        x.due(-12, "remove");
        x.due(BAD_ARG, "change", 5, 1);
        x.due(5, "add", 99, 7);
        x.due(7, "change", 5, 1);
    }

    private static void changeToNoAmount() {
        for (int amount : outside(-50, 50)) {
            refused(BAD_ARG, ONE, "change", 0, amount);
            refused(BAD_ARG, SOME, "change", 5, amount);
            refused(BAD_ARG, FORTY, "change", 39, amount);
            refusedInEveryState(BAD_ARG, "change", 40, amount);
            refusedInEveryState(BAD_ARG, "change", -1, amount);
        }
        for (int amount = -300; amount <= 300; amount++) {
            new Cube(ONE).due(in(amount, -50, 50) ? -50 : BAD_ARG, "change", 0, amount);
        }
    }

    // ---- Promise 5

    private static void factsFromNoneToForty() {
        for (int many = 0; many <= 40; many++) {
            Cube x = new Cube(same(many, 119, 0));
            x.due(many, "facts");
            x.due(many == 0 ? NONE : 0, "remove");
            x.due(many == 0 ? 0 : many - 1, "facts");
        }
    }

    // ---- Promises 6, 7, 8

    private static void badFilter(String call) {
        for (int filter : outside(0, ALL)) {
            refusedInEveryState(BAD_ARG, call, filter);
        }
    }

    private static void nonePasses(int answer, String call) {
        for (int filter : new int[] {0, filter(4, 31, 63), filter(15, 2, 63), filter(15, 31, 2), filter(2, 1, 63)}) {
            Cube x = new Cube(SOME);
            x.due(answer, call, filter);
            x.dueFacts(SOME);
        }
        new Cube(FORTY).due(answer, call, 0);
        new Cube(EMPTY).due(answer, call, ALL);
        Cube emptied = new Cube(ONE);
        emptied.ask(call, ALL);
        emptied.due(-50, "remove");
        emptied.due(answer, call, ALL);
        emptied.due(answer, call, only(119));
    }

    private static void endsOfSums() {
        Cube high = new Cube(same(40, 119, 50));
        high.due(2000, "sum", ALL);
        high.due(50, "greatest", ALL);
        high.due(40, "count", only(119));
        Cube low = new Cube(same(40, 0, -50));
        low.due(-2000, "sum", ALL);
        low.due(-50, "greatest", ALL);
        low.due(40, "count", only(0));
    }

    // ---- Promises 9, 10, 11

    private static void badGrouping(String call) {
        for (int grouping : outside(0, 7)) {
            refusedInEveryState(BAD_ARG, call, grouping, ALL);
            refusedInEveryState(BAD_ARG, call, grouping, 0);
        }
    }

    private static void badFilterOfGroups(String call) {
        for (int filter : outside(0, ALL)) {
            for (int grouping = 0; grouping < 8; grouping++) {
                refused(BAD_ARG, SOME, call, grouping, filter);
            }
            refusedInEveryState(BAD_ARG, call, 7, filter);
            refusedInEveryState(BAD_ARG, call, -1, filter);
            refusedInEveryState(BAD_ARG, call, 8, filter);
        }
    }

    private static void noGroup(int answer, String call) {
        for (int grouping = 0; grouping < 8; grouping++) {
            for (int filter : new int[] {0, filter(4, 31, 63), filter(15, 2, 63), filter(15, 31, 2)}) {
                Cube x = new Cube(SOME);
                x.due(answer, call, grouping, filter);
                x.dueFacts(SOME);
            }
            new Cube(EMPTY).due(answer, call, grouping, ALL);
            new Cube(FORTY).due(answer, call, grouping, 0);
            Cube emptied = new Cube(ONE);
            emptied.due(-50, "remove");
            emptied.due(answer, call, grouping, ALL);
        }
    }

    private static void onlyGroupsThatHaveOne() {
        Cube low = new Cube(ONE);
        // The fact of region 0 does not pass, so that its group must not stand as a sum of 0.
        Cube part = new Cube(new int[][] {{0, 9}, {place(1, 1, 1), -5}});
        for (int grouping = 0; grouping < 8; grouping++) {
            low.due(1, "groups", grouping, ALL);
            low.due(-50, "topSum", grouping, ALL);
            low.due(groupOf(119, grouping), "topGroup", grouping, ALL);
            part.due(1, "groups", grouping, filter(14, 31, 63));
            part.due(-5, "topSum", grouping, filter(14, 31, 63));
            part.due(groupOf(25, grouping), "topGroup", grouping, filter(14, 31, 63));
        }
        // A group whose facts come to 0 has facts all the same.
        Cube zero = new Cube(new int[][] {{0, -1}, {25, 8}, {25, -8}});
        zero.due(2, "groups", 7, ALL);
        zero.due(0, "topSum", 7, ALL);
        zero.due(25, "topGroup", 7, ALL);
        // Of a group only the facts that pass are summed.
        Cube passing = new Cube(new int[][] {{0, 5}, {20, 50}, {1, 6}, {21, -50}});
        passing.due(6, "topSum", 1, filter(15, 31, 1));
        passing.due(1, "topGroup", 1, filter(15, 31, 1));
        passing.due(55, "topSum", 1, ALL);
    }

    private static void endsOfTopSum() {
        Cube high = new Cube(same(40, 119, 50));
        Cube low = new Cube(same(40, 119, -50));
        for (int grouping = 0; grouping < 8; grouping++) {
            high.due(2000, "topSum", grouping, ALL);
            low.due(-2000, "topSum", grouping, ALL);
            high.due(groupOf(119, grouping), "topGroup", grouping, ALL);
            low.due(groupOf(119, grouping), "topGroup", grouping, ALL);
        }
    }

    private static void leastOfSeveral() {
        for (int first = 0; first < 120; first++) {
            for (int second = 0; second < first; second++) {
                int amount = (first + second) % 3 * 50 - 50;
                dueTie(first, second, amount);
                dueTie(second, first, amount);
            }
        }
        Cube all = new Cube(EMPTY);
        for (int i = 0; i < 40; i++) {
            all.due(i, "add", 119 - 2 * i, -3);
        }
        all.due(41, "topGroup", 7, ALL);
        // Sums that are equal though no amounts are.
        Cube sums = new Cube(new int[][] {{99, 7}, {50, 3}, {50, 4}, {70, 6}});
        sums.due(7, "topSum", 7, ALL);
        sums.due(50, "topGroup", 7, ALL);
        sums.due(6, "change", 3, 8);
        sums.due(70, "topGroup", 7, ALL);
        // Without the filter there is no tie.
        Cube passing = new Cube(new int[][] {{3, 4}, {2, 4}, {23, 1}});
        passing.due(3, "topGroup", 1, ALL);
        passing.due(2, "topGroup", 1, filter(15, 31, 1));
    }

    private static void dueTie(int first, int second, int amount) {
        Cube x = new Cube(new int[][] {{first, amount}, {second, amount}});
        for (int grouping = 0; grouping < 8; grouping++) {
            x.due(Math.min(groupOf(first, grouping), groupOf(second, grouping)), "topGroup", grouping, ALL);
        }
    }

    private static void zeroWhereNotParted() {
        for (int region = 0; region < 4; region++) {
            for (int kind = 0; kind < 5; kind++) {
                for (int month = 0; month < 6; month++) {
                    Cube x = new Cube(new int[][] {{place(region, kind, month), -1}});
                    x.due(0, "topGroup", 0, ALL);
                    x.due(region, "topGroup", 1, ALL);
                    x.due(4 * kind, "topGroup", 2, ALL);
                    x.due(region + 4 * kind, "topGroup", 3, ALL);
                    x.due(20 * month, "topGroup", 4, ALL);
                    x.due(region + 20 * month, "topGroup", 5, ALL);
                    x.due(4 * kind + 20 * month, "topGroup", 6, ALL);
                    x.due(region + 4 * kind + 20 * month, "topGroup", 7, ALL);
                }
            }
        }
    }

    // ---- Promise 12

    private static void badQuarter() {
        for (int q : outside(0, 1)) {
            for (int region = 0; region < 4; region++) {
                refusedInEveryState(BAD_ARG, "quarter", q, region);
            }
        }
    }

    private static void badRegion() {
        for (int region : outside(0, 3)) {
            for (int q = -1; q <= 2; q++) {
                refusedInEveryState(BAD_ARG, "quarter", q, region);
            }
        }
    }

    private static void endsOfQuarter() {
        Cube none = new Cube(ONE);
        none.due(0, "quarter", 0, 3);
        none.due(0, "quarter", 1, 2);
        none.due(-50, "quarter", 1, 3);
        new Cube(same(40, 40, 50)).due(2000, "quarter", 0, 0);
        new Cube(same(40, 63, -50)).due(-2000, "quarter", 1, 3);
    }

    // ---- Promise 13

    private static void badMonth() {
        for (int m : outside(1, 5)) {
            refusedInEveryState(BAD_ARG, "growth", m);
        }
    }

    private static void endsOfGrowth() {
        int[][] facts = new int[6][];
        for (int month = 0; month < 6; month++) {
            facts[month] = new int[] {place(month % 4, month % 5, month), month * month};
        }
        Cube x = new Cube(facts);
        for (int m = 1; m <= 5; m++) {
            x.due(2 * m - 1, "growth", m);
        }
        int[][] steep = new int[40][];
        for (int i = 0; i < 40; i++) {
            steep[i] = i < 20 ? new int[] {place(i % 4, i / 4, 4), -50} : new int[] {place(i % 4, i / 4 - 5, 5), 50};
        }
        Cube y = new Cube(steep);
        y.due(2000, "growth", 5);
        y.due(-1000, "growth", 4);
        y.due(0, "growth", 3);
        new Cube(same(40, 0, -50)).due(2000, "growth", 1);
        new Cube(same(40, 0, 50)).due(-2000, "growth", 1);
    }

    // ---- Promise 14

    private static void anyLimit() {
        Cube x = new Cube(SOME);
        int[] groups = {1, 3, 3, 3, 5, 5, 5, 5};
        for (int grouping = 0; grouping < 8; grouping++) {
            for (int limit : new int[] {LEAST, LEAST + 1, NONE, FULL, BAD_ARG, -2001}) {
                x.due(groups[grouping], "atLeast", grouping, limit);
            }
            for (int limit : new int[] {GREATEST, GREATEST - 1, 1000000, 2001}) {
                x.due(0, "atLeast", grouping, limit);
            }
        }
        x.dueFacts(SOME);
        for (int end : new int[] {50, -50}) {
            Cube y = new Cube(same(40, 119, end));
            for (int grouping = 0; grouping < 8; grouping++) {
                y.due(1, "atLeast", grouping, 40 * end - 1);
                y.due(1, "atLeast", grouping, 40 * end);
                y.due(0, "atLeast", grouping, 40 * end + 1);
            }
        }
        // Sums by region: 8, -6 and 8.
        Cube z = new Cube(SOME);
        for (int limit = -60; limit <= 60; limit++) {
            z.due(limit <= -6 ? 3 : limit <= 8 ? 2 : 0, "atLeast", 1, limit);
        }
    }

    private static void onlyGroupsWithFacts() {
        for (int grouping = 0; grouping < 8; grouping++) {
            new Cube(EMPTY).due(0, "atLeast", grouping, 0);
            new Cube(EMPTY).due(0, "atLeast", grouping, LEAST);
            Cube x = new Cube(new int[][] {{25, 8}, {25, -8}});
            x.due(1, "atLeast", grouping, 0);
            x.due(1, "atLeast", grouping, LEAST);
            x.due(0, "atLeast", grouping, 1);
            x.due(-8, "remove");
            x.due(8, "remove");
            x.due(0, "atLeast", grouping, 0);
            Cube y = new Cube(ONE);
            y.due(0, "atLeast", grouping, 0);
            y.due(1, "atLeast", grouping, -50);
        }
    }

    private static void badGroupingOfAtLeast() {
        for (int grouping : outside(0, 7)) {
            for (int x : new int[] {LEAST, -1, 0, 1, GREATEST}) {
                refusedInEveryState(BAD_ARG, "atLeast", grouping, x);
            }
        }
    }

    // ---- Promise 15

    private static void badRoom() {
        for (int room : outside(0, 200)) {
            refusedInEveryState(BAD_ARG, "plan", room);
        }
    }

    private static void everyRoom() {
        for (int[][] facts : STATES) {
            Cube x = new Cube(facts);
            for (int room = 0; room <= 200; room++) {
                x.due(0, "plan", room);
            }
        }
    }

    // ---- Promise 16

    private static void badArgBeforeNone() {
        int[][] others = {{0, 1}, {40, 2}};
        for (int[][] facts : new int[][][] {EMPTY, others}) {
            for (int filter : outside(0, ALL)) {
                refused(BAD_ARG, facts, "greatest", filter);
                refused(BAD_ARG, facts, "topSum", 0, filter);
                refused(BAD_ARG, facts, "topGroup", 0, filter);
            }
            for (int grouping : outside(0, 7)) {
                for (int filter : new int[] {0, only(119)}) {
                    refused(BAD_ARG, facts, "topSum", grouping, filter);
                    refused(BAD_ARG, facts, "topGroup", grouping, filter);
                }
            }
            refused(NONE, facts, "greatest", only(119));
            refused(NONE, facts, "topSum", 7, only(119));
            refused(NONE, facts, "topGroup", 7, only(119));
        }
    }

    private static void test(String words, Runnable body) {
        sentence = words;
        sentences++;
        wrongInSentence = 0;
        body.run();
        if (wrongInSentence > 5) {
            System.out.println("\"" + sentence + "\": " + (wrongInSentence - 5) + " more");
        }
    }

    private static void terms() {
        test("What it is: at most 512 calls", BoundariesTest::calls512);
        test("Terms: region 0 to 3, kind 0 to 4, month 0 to 5", BoundariesTest::rangesOfPlaces);
        test("Terms: amount -50 to 50", BoundariesTest::rangeOfAmounts);
        test("Terms: at most 40 facts", BoundariesTest::atMost40);
        test("Terms: numbered 0, 1, .. in the order added", BoundariesTest::numbersInOrder);
        test("Terms: month m belongs to quarter m / 3 rounded down", BoundariesTest::quartersOfMonths);
        test("Terms: sets of regions 0 to 15, kinds 0 to 31, months 0 to 63", BoundariesTest::endsOfTheSets);
        test("Terms: packed filter 0 to 32767", BoundariesTest::everyFilter);
        test("Terms: passes if region, kind and month are in the sets", BoundariesTest::passesInAllThree);
        test("Terms: grouping 0 to 7", BoundariesTest::everyGrouping);
        test("Terms: a group agrees in all the dimensions that part", BoundariesTest::agreeInAll);
        test("Terms: plan can't be seen by any other call", BoundariesTest::planIsUnseen);
        test("Terms: no call ever throws", BoundariesTest::neverThrows);
        test("Terms: a refused call changes nothing", BoundariesTest::refusedChangesNothing);
        test("Terms: BAD_ARG if an argument is out of its range", BoundariesTest::badArgOnlyOutOfRange);
        test("Terms: the constants", BoundariesTest::constants);
    }

    private static void promises1To8() {
        test("Promise 1: no fact", BoundariesTest::newObjectIsEmpty);
        test("Promise 2: place not 0 to 119", BoundariesTest::placeOutOfRange);
        test("Promise 2: amount not -50 to 50", BoundariesTest::amountOutOfRange);
        test("Promise 2: FULL", BoundariesTest::addToForty);
        test("Promise 2: BAD_ARG before FULL", BoundariesTest::badArgBeforeFull);
        test("Promise 3: NONE if there is none", BoundariesTest::removeOfNone);
        test("Promise 3: the highest number", BoundariesTest::removeTakesTheHighest);
        test("Promise 4: no fact i", BoundariesTest::changeOfNoFact);
        test("Promise 4: amount not -50 to 50", BoundariesTest::changeToNoAmount);
        test("Promise 5: from none to 40", BoundariesTest::factsFromNoneToForty);
        test("Promise 6: filter not 0 to 32767", () -> badFilter("count"));
        test("Promise 6: none passes", () -> nonePasses(0, "count"));
        test("Promise 7: filter not 0 to 32767", () -> badFilter("sum"));
        test("Promise 7: none passes", () -> nonePasses(0, "sum"));
        test("Promise 8: filter not 0 to 32767", () -> badFilter("greatest"));
        test("Promise 8: NONE if none passes", () -> nonePasses(NONE, "greatest"));
        test("Promises 6, 7, 8: the most and the least there can be", BoundariesTest::endsOfSums);
    }

    private static void promises9To16() {
        test("Promise 9: grouping not 0 to 7", () -> badGrouping("groups"));
        test("Promise 9: filter not 0 to 32767", () -> badFilterOfGroups("groups"));
        test("Promise 9: no group has a fact that passes", () -> noGroup(0, "groups"));
        test("Promise 10: grouping not 0 to 7", () -> badGrouping("topSum"));
        test("Promise 10: filter not 0 to 32767", () -> badFilterOfGroups("topSum"));
        test("Promise 10: NONE if there is none", () -> noGroup(NONE, "topSum"));
        test("Promise 11: grouping not 0 to 7", () -> badGrouping("topGroup"));
        test("Promise 11: filter not 0 to 32767", () -> badFilterOfGroups("topGroup"));
        test("Promise 11: NONE if there is none", () -> noGroup(NONE, "topGroup"));
        test("Promises 9, 10, 11: the groups that have one", BoundariesTest::onlyGroupsThatHaveOne);
        test("Promises 10, 11: the most and the least there can be", BoundariesTest::endsOfTopSum);
        test("Promise 11: of several the least number", BoundariesTest::leastOfSeveral);
        test("Promise 11: 0 for every dimension that does not part", BoundariesTest::zeroWhereNotParted);
        test("Promise 12: q not 0 or 1", BoundariesTest::badQuarter);
        test("Promise 12: region not 0 to 3", BoundariesTest::badRegion);
        test("Promise 12: the most and the least there can be", BoundariesTest::endsOfQuarter);
        test("Promise 13: m not 1 to 5", BoundariesTest::badMonth);
        test("Promise 13: months 1 to 5", BoundariesTest::endsOfGrowth);
        test("Promise 14: x is any int", BoundariesTest::anyLimit);
        test("Promise 14: groups with at least one fact alone", BoundariesTest::onlyGroupsWithFacts);
        test("Promise 14: grouping not 0 to 7", BoundariesTest::badGroupingOfAtLeast);
        test("Promise 15: room not 0 to 200", BoundariesTest::badRoom);
        test("Promise 15: room 0 to 200", BoundariesTest::everyRoom);
        test("Promise 16: BAD_ARG before NONE", BoundariesTest::badArgBeforeNone);
    }

    public static void main(String[] args) {
        terms();
        promises1To8();
        promises9To16();
        System.out.println(wrong == 0 ? "all " + sentences + " sentences hold" : wrong + " answers are not as due");
        if (wrong != 0) {
            System.exit(1);
        }
    }
}
