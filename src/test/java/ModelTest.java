import java.util.ArrayList;
import java.util.List;
import java.util.Map;
import java.util.TreeMap;

// Long fixed runs of mixed calls, each answer compared with that of a model written another way: the facts as
// objects with their dimensions apart, and the groups as a map built anew for each question.
public final class ModelTest {
    private static final int BAD_ARG = -1000000;
    private static final int FULL = -2000000;
    private static final int NONE = -4000000;
    private static final int RUNS = 2000;
    // The document promises nothing for an object after so many calls.
    private static final int CALLS = 512;

    private static int wrong = 0;
    private static long state = 20261115L;

    private static final class Fact {
        final int region;
        final int kind;
        final int month;
        int amount;

        Fact(int region, int kind, int month, int amount) {
            this.region = region;
            this.kind = kind;
            this.month = month;
            this.amount = amount;
        }
    }

    private static final class Model {
        final List<Fact> facts = new ArrayList<>();

        int add(int place, int amount) {
            if (place < 0 || place > 119 || Math.abs((long) amount) > 50) {
                return BAD_ARG;
            }
            if (facts.size() == 40) {
                return FULL;
            }
            facts.add(new Fact(place % 4, place % 20 / 4, place / 20, amount));
            return facts.size() - 1;
        }

        int remove() {
            return facts.isEmpty() ? NONE : facts.remove(facts.size() - 1).amount;
        }

        int change(int i, int amount) {
            if (i < 0 || i >= facts.size() || Math.abs((long) amount) > 50) {
                return BAD_ARG;
            }
            int before = facts.get(i).amount;
            facts.get(i).amount = amount;
            return before;
        }

        List<Fact> passing(int filter) {
            int regions = filter % 16;
            int kinds = filter / 16 % 32;
            int months = filter / 512;
            List<Fact> passing = new ArrayList<>();
            for (Fact f : facts) {
                boolean in = (regions >> f.region) % 2 == 1 && (kinds >> f.kind) % 2 == 1 && (months >> f.month) % 2 == 1;
                if (in) {
                    passing.add(f);
                }
            }
            return passing;
        }

        TreeMap<Integer, Integer> sums(int grouping, int filter) {
            TreeMap<Integer, Integer> sums = new TreeMap<>();
            for (Fact f : passing(filter)) {
                int region = grouping % 2 == 1 ? f.region : 0;
                int kind = grouping / 2 % 2 == 1 ? f.kind : 0;
                int month = grouping / 4 == 1 ? f.month : 0;
                sums.merge(region + 4 * kind + 20 * month, f.amount, Integer::sum);
            }
            return sums;
        }

        int count(int filter) {
            return badFilter(filter) ? BAD_ARG : passing(filter).size();
        }

        int sum(int filter) {
            return badFilter(filter) ? BAD_ARG : passing(filter).stream().mapToInt(f -> f.amount).sum();
        }

        int greatest(int filter) {
            return badFilter(filter) ? BAD_ARG : passing(filter).stream().mapToInt(f -> f.amount).max().orElse(NONE);
        }

        int groups(int grouping, int filter) {
            return badGrouping(grouping) || badFilter(filter) ? BAD_ARG : sums(grouping, filter).size();
        }

        int topSum(int grouping, int filter) {
            if (badGrouping(grouping) || badFilter(filter)) {
                return BAD_ARG;
            }
            return sums(grouping, filter).values().stream().mapToInt(s -> s).max().orElse(NONE);
        }

        int topGroup(int grouping, int filter) {
            int top = topSum(grouping, filter);
            if (top == BAD_ARG || top == NONE) {
                return top;
            }
            for (Map.Entry<Integer, Integer> e : sums(grouping, filter).entrySet()) {
                if (e.getValue() == top) {
                    return e.getKey();
                }
            }
            return NONE;
        }

        int quarter(int q, int region) {
            if (q < 0 || q > 1 || region < 0 || region > 3) {
                return BAD_ARG;
            }
            return facts.stream().filter(f -> f.month / 3 == q && f.region == region).mapToInt(f -> f.amount).sum();
        }

        int month(int m) {
            return facts.stream().filter(f -> f.month == m).mapToInt(f -> f.amount).sum();
        }

        int growth(int m) {
            return m < 1 || m > 5 ? BAD_ARG : month(m) - month(m - 1);
        }

        int atLeast(int grouping, int x) {
            if (badGrouping(grouping)) {
                return BAD_ARG;
            }
            return (int) sums(grouping, 32767).values().stream().filter(s -> s >= x).count();
        }

        int plan(int room) {
            return room < 0 || room > 200 ? BAD_ARG : 0;
        }

        static boolean badFilter(int filter) {
            return filter < 0 || filter > 32767;
        }

        static boolean badGrouping(int grouping) {
            return grouping < 0 || grouping > 7;
        }
    }

    // A fixed sequence, so that every run of this test makes the same calls.
    private static int next(int bound) {
        state = state * 6364136223846793005L + 1442695040888963407L;
        return (int) ((state >>> 33) % bound);
    }

    // Mostly a number from low to high, now and then one just outside or far away.
    private static int argument(int low, int high) {
        switch (next(40)) {
            case 0: return low - 1;
            case 1: return high + 1;
            case 2: return next(2) == 0 ? Integer.MIN_VALUE : Integer.MAX_VALUE;
            case 3: return low;
            case 4: return high;
            default: return low + next(high - low + 1);
        }
    }

    private static int filter() {
        switch (next(4)) {
            case 0: return 32767;
            case 1: return 32767 - (1 << next(15));
            default: return argument(0, 32767);
        }
    }

    private static void due(int run, int call, String text, int got, int want) {
        if (got != want) {
            wrong++;
            if (wrong <= 20) {
                System.out.println("run " + run + ", call " + call + ": " + text + " answered " + got + ", due is " + want);
            }
        }
    }

    // A small spread of amounts makes ties between groups common.
    private static int amount(int spread) {
        return next(10) == 0 ? argument(-50, 50) : next(2 * spread + 1) - spread;
    }

    private static void changeFacts(int run, int n, CubeViews x, Model m, int spread, int adds) {
        int choice = next(10);
        int amount = amount(spread);
        if (choice < adds) {
            int place = argument(0, 119);
            due(run, n, "add(" + place + ", " + amount + ")", x.add(place, amount), m.add(place, amount));
        } else if (choice < 8) {
            due(run, n, "remove()", x.remove(), m.remove());
        } else {
            int i = argument(0, Math.max(0, m.facts.size() - 1));
            due(run, n, "change(" + i + ", " + amount + ")", x.change(i, amount), m.change(i, amount));
        }
    }

    private static void ask(int run, int n, CubeViews x, Model m) {
        int f = filter();
        int g = argument(0, 7);
        int region = argument(0, 3);
        int small = argument(-60, 60);
        int q = argument(0, 1);
        int month = argument(1, 5);
        int room = argument(0, 200);
        switch (next(11)) {
            case 0: due(run, n, "facts()", x.facts(), m.facts.size()); break;
            case 1: due(run, n, "count(" + f + ")", x.count(f), m.count(f)); break;
            case 2: due(run, n, "sum(" + f + ")", x.sum(f), m.sum(f)); break;
            case 3: due(run, n, "greatest(" + f + ")", x.greatest(f), m.greatest(f)); break;
            case 4: due(run, n, "groups(" + g + ", " + f + ")", x.groups(g, f), m.groups(g, f)); break;
            case 5: due(run, n, "topSum(" + g + ", " + f + ")", x.topSum(g, f), m.topSum(g, f)); break;
            case 6: due(run, n, "topGroup(" + g + ", " + f + ")", x.topGroup(g, f), m.topGroup(g, f)); break;
            case 7: due(run, n, "quarter(" + q + ", " + region + ")", x.quarter(q, region), m.quarter(q, region)); break;
            case 8: due(run, n, "growth(" + month + ")", x.growth(month), m.growth(month)); break;
            case 9: due(run, n, "atLeast(" + g + ", " + small + ")", x.atLeast(g, small), m.atLeast(g, small)); break;
            default: due(run, n, "plan(" + room + ")", x.plan(room), m.plan(room)); break;
        }
    }

    public static void main(String[] args) {
        for (int run = 1; run <= RUNS; run++) {
            CubeViews x = new CubeViews();
            Model m = new Model();
            int spread = 1 + next(50);
            // From runs that stay nearly empty to runs that fill up early.
            int adds = 4 + next(4);
            for (int n = 1; n <= CALLS; n++) {
                if (next(3) == 0) {
                    changeFacts(run, n, x, m, spread, adds);
                } else {
                    ask(run, n, x, m);
                }
            }
        }
        System.out.println(wrong == 0 ? "all answers are as due" : wrong + " answers are not as due");
        if (wrong != 0) {
            System.exit(1);
        }
    }
}
