// One method for each promise of the document: ordinary inputs, the edges it names, and wrong inputs.
public final class PromisesTest {
    private static final int BAD_ARG = -1000000;
    private static final int FULL = -2000000;
    private static final int NONE = -4000000;
    private static final int ALL = 32767;
    private static final int[] FAR = {Integer.MIN_VALUE, Integer.MAX_VALUE};

    private static int wrong = 0;

    private static void due(String call, int got, int want) {
        if (got != want) {
            wrong++;
            System.out.println(call + " answered " + got + ", due is " + want);
        }
    }

    private static int place(int region, int kind, int month) {
        return region + 4 * kind + 20 * month;
    }

    private static int filter(int regions, int kinds, int months) {
        return regions + 16 * kinds + 512 * months;
    }

    private static CubeViews full(int place, int amount) {
        CubeViews x = new CubeViews();
        for (int i = 0; i < 40; i++) {
            due("add " + i + " of 40", x.add(place, amount), i);
        }
        return x;
    }

    // Sums by region: 0 has 8, 1 has -6, 3 has 8. By kind: 0 has 8, 2 has -6, 4 has 8.
    private static CubeViews sample() {
        CubeViews x = new CubeViews();
        x.add(place(0, 0, 0), 10);
        x.add(place(0, 0, 2), -2);
        x.add(place(1, 2, 3), -9);
        x.add(place(1, 2, 3), 3);
        x.add(place(3, 4, 5), 20);
        x.add(place(3, 4, 4), -12);
        return x;
    }

    // Compares what the calls show of the sample, to see that a refused call has changed nothing.
    private static void dueUnchangedSample(String after, CubeViews x) {
        due("facts after " + after, x.facts(), 6);
        due("sum after " + after, x.sum(ALL), 10);
        int[] amounts = {10, -2, -9, 3, 20, -12};
        for (int i = 5; i >= 0; i--) {
            due("remove of " + i + " after " + after, x.remove(), amounts[i]);
        }
    }

    private static void promise1NewObject() {
        CubeViews x = new CubeViews();
        due("new: facts", x.facts(), 0);
        due("new: count", x.count(ALL), 0);
        due("new: sum", x.sum(ALL), 0);
        due("new: greatest", x.greatest(ALL), NONE);
        for (int grouping = 0; grouping < 8; grouping++) {
            due("new: groups", x.groups(grouping, ALL), 0);
            due("new: topSum", x.topSum(grouping, ALL), NONE);
            due("new: topGroup", x.topGroup(grouping, ALL), NONE);
            due("new: atLeast", x.atLeast(grouping, Integer.MIN_VALUE), 0);
        }
        due("new: quarter", x.quarter(0, 0), 0);
        due("new: growth", x.growth(1), 0);
        due("new: change", x.change(0, 0), BAD_ARG);
        due("new: remove", x.remove(), NONE);
        CubeViews other = sample();
        due("new beside another: facts", x.facts(), 0);
        due("another beside new: facts", other.facts(), 6);
    }

    private static void promise2Add() {
        CubeViews x = new CubeViews();
        due("add least", x.add(0, -50), 0);
        due("add greatest", x.add(119, 50), 1);
        int[] badPlaces = {-1, 120, -120, FAR[0], FAR[1]};
        for (int bad : badPlaces) {
            due("add(" + bad + ", 0)", x.add(bad, 0), BAD_ARG);
        }
        int[] badAmounts = {-51, 51, FAR[0], FAR[1]};
        for (int bad : badAmounts) {
            due("add(0, " + bad + ")", x.add(0, bad), BAD_ARG);
        }
        due("refused adds: facts", x.facts(), 2);
        due("refused adds: sum", x.sum(ALL), 0);
        due("add after refused ones", x.add(5, 1), 2);
        everyPlaceIsUnpackedRightly();

        CubeViews y = full(7, 1);
        due("add to a full one", y.add(7, 1), FULL);
        due("BAD_ARG before FULL, place above", y.add(120, 1), BAD_ARG);
        due("BAD_ARG before FULL, place below", y.add(-1, 1), BAD_ARG);
        due("BAD_ARG before FULL, amount above", y.add(7, 51), BAD_ARG);
        due("BAD_ARG before FULL, amount below", y.add(7, -51), BAD_ARG);
        due("full: facts", y.facts(), 40);
        due("full: sum", y.sum(ALL), 40);
        due("full: remove", y.remove(), 1);
        due("add after a full one lost a fact", y.add(8, 2), 39);
        due("the new fact counts", y.sum(ALL), 41);
        due("the new fact has its own place", y.count(filter(1, 4, 1)), 1);
    }

    private static void everyPlaceIsUnpackedRightly() {
        for (int region = 0; region < 4; region++) {
            for (int kind = 0; kind < 5; kind++) {
                for (int month = 0; month < 6; month++) {
                    CubeViews x = new CubeViews();
                    int place = place(region, kind, month);
                    String at = " at place " + place;
                    due("add" + at, x.add(place, 4), 0);
                    due("only its own filter" + at, x.count(filter(1 << region, 1 << kind, 1 << month)), 1);
                    due("all but its region" + at, x.count(filter(15 - (1 << region), 31, 63)), 0);
                    due("all but its kind" + at, x.count(filter(15, 31 - (1 << kind), 63)), 0);
                    due("all but its month" + at, x.count(filter(15, 31, 63 - (1 << month))), 0);
                    due("topGroup 7" + at, x.topGroup(7, ALL), place);
                    due("topGroup 1" + at, x.topGroup(1, ALL), region);
                    due("topGroup 2" + at, x.topGroup(2, ALL), 4 * kind);
                    due("topGroup 4" + at, x.topGroup(4, ALL), 20 * month);
                    due("its quarter" + at, x.quarter(month / 3, region), 4);
                    due("the other quarter" + at, x.quarter(1 - month / 3, region), 0);
                }
            }
        }
    }

    private static void promise3Remove() {
        CubeViews x = new CubeViews();
        due("remove of nothing", x.remove(), NONE);
        due("remove of nothing again", x.remove(), NONE);
        due("facts after refused remove", x.facts(), 0);
        due("first number after refused remove", x.add(3, -50), 0);
        due("second number", x.add(4, 50), 1);
        due("remove takes the highest number", x.remove(), 50);
        due("the other stays", x.sum(ALL), -50);
        due("the removed fact no longer counts", x.count(ALL), 1);
        due("the removed fact can't be changed", x.change(1, 0), BAD_ARG);
        due("its number is given again", x.add(9, 0), 1);
        due("remove of a zero amount", x.remove(), 0);
        due("remove of a changed fact: change", x.change(0, 8), -50);
        due("remove of a changed fact", x.remove(), 8);
        due("remove of the last", x.remove(), NONE);
        CubeViews y = full(119, -1);
        for (int left = 39; left >= 0; left--) {
            due("remove from full", y.remove(), -1);
            due("facts left", y.facts(), left);
            due("sum left", y.sum(ALL), -left);
        }
        due("emptied", y.remove(), NONE);
    }

    private static void promise4Change() {
        CubeViews x = sample();
        int[] badNumbers = {-1, 6, 39, 40, 41, FAR[0], FAR[1]};
        for (int bad : badNumbers) {
            due("change(" + bad + ", 0)", x.change(bad, 0), BAD_ARG);
        }
        int[] badAmounts = {-51, 51, FAR[0], FAR[1]};
        for (int bad : badAmounts) {
            due("change(0, " + bad + ")", x.change(0, bad), BAD_ARG);
            due("change(6, " + bad + ")", x.change(6, bad), BAD_ARG);
        }
        dueUnchangedSample("refused changes", x);

        CubeViews y = sample();
        due("change to the greatest", y.change(0, 50), 10);
        due("change to the least", y.change(0, -50), 50);
        due("change of the last", y.change(5, 1), -12);
        due("change to the same", y.change(5, 1), 1);
        due("sum after changes", y.sum(ALL), -50 - 2 - 9 + 3 + 20 + 1);
        due("facts after changes", y.facts(), 6);
        due("place after change", y.sum(filter(1, 1, 1)), -50);
        due("place of the last after change", y.sum(filter(8, 16, 16)), 1);

        CubeViews z = full(0, 2);
        due("change of fact 39", z.change(39, 5), 2);
        due("change of fact 40 when full", z.change(40, 5), BAD_ARG);
        due("sum when full", z.sum(ALL), 83);
    }

    private static void promise5Facts() {
        CubeViews x = new CubeViews();
        for (int i = 0; i < 40; i++) {
            due("facts while adding", x.facts(), i);
            x.add(i, 0);
        }
        due("facts when full", x.facts(), 40);
        x.add(0, 0);
        due("facts after FULL", x.facts(), 40);
        x.change(0, 9);
        due("facts after change", x.facts(), 40);
        x.remove();
        due("facts after remove", x.facts(), 39);
    }

    private static void promise6Count() {
        CubeViews x = sample();
        due("count of all", x.count(ALL), 6);
        due("count of the empty filter", x.count(0), 0);
        due("count without regions", x.count(filter(0, 31, 63)), 0);
        due("count without kinds", x.count(filter(15, 0, 63)), 0);
        due("count without months", x.count(filter(15, 31, 0)), 0);
        due("count of one region", x.count(filter(2, 31, 63)), 2);
        due("count of two kinds", x.count(filter(15, 1 + 16, 63)), 4);
        due("count of months 2 to 4", x.count(filter(15, 31, 4 + 8 + 16)), 4);
        due("count where the sets meet in one", x.count(filter(9, 17, 33)), 2);
        badFilters(6, x);
        dueUnchangedSample("count", x);
    }

    private static void promise7Sum() {
        CubeViews x = sample();
        due("sum of all", x.sum(ALL), 10);
        due("sum of the empty filter", x.sum(0), 0);
        due("sum of one region", x.sum(filter(2, 31, 63)), -6);
        due("sum of one kind", x.sum(filter(15, 16, 63)), 8);
        due("sum of one month", x.sum(filter(15, 31, 32)), 20);
        due("sum of a slice", x.sum(filter(9, 31, 4 + 16)), -14);
        due("sum over an empty region", x.sum(filter(4, 31, 63)), 0);
        badFilters(7, x);
        dueUnchangedSample("sum", x);
        CubeViews high = full(60, 50);
        due("greatest sum there is", high.sum(ALL), 2000);
        CubeViews low = full(60, -50);
        due("least sum there is", low.sum(ALL), -2000);
    }

    private static void promise8Greatest() {
        CubeViews x = sample();
        due("greatest of all", x.greatest(ALL), 20);
        due("greatest of one region", x.greatest(filter(2, 31, 63)), 3);
        due("greatest of negative ones alone", x.greatest(filter(15, 31, 4 + 16)), -2);
        due("greatest of one negative", x.greatest(filter(15, 31, 16)), -12);
        due("greatest of an empty region", x.greatest(filter(4, 31, 63)), NONE);
        due("greatest of the empty filter", x.greatest(0), NONE);
        badFilters(8, x);
        dueUnchangedSample("greatest", x);
        CubeViews y = new CubeViews();
        y.add(0, -50);
        due("greatest of the least amount", y.greatest(ALL), -50);
        y.add(0, 0);
        due("greatest with a zero", y.greatest(ALL), 0);
        y.remove();
        due("greatest forgets a removed fact", y.greatest(ALL), -50);
    }

    private static void promise9Groups() {
        CubeViews x = sample();
        int[] numbers = {1, 3, 3, 3, 5, 5, 5, 5};
        for (int grouping = 0; grouping < 8; grouping++) {
            due("groups(" + grouping + ", all)", x.groups(grouping, ALL), numbers[grouping]);
            due("groups(" + grouping + ", none)", x.groups(grouping, 0), 0);
        }
        due("groups counts only what passes", x.groups(4, filter(9, 31, 63)), 4);
        due("groups counts a group that passes in part", x.groups(1, filter(15, 31, 4 + 16)), 2);
        badGroupings(9, x);
        dueUnchangedSample("groups", x);

        CubeViews spread = new CubeViews();
        for (int i = 0; i < 40; i++) {
            spread.add(119 - 3 * i, 0);
        }
        due("as many groups as facts", spread.groups(7, ALL), 40);
        due("every region", spread.groups(1, ALL), 4);
        due("every kind", spread.groups(2, ALL), 5);
        due("every month", spread.groups(4, ALL), 6);
        due("one group of all", spread.groups(0, ALL), 1);
    }

    private static void promise10TopSum() {
        CubeViews x = sample();
        int[] sums = {10, 8, 8, 8, 20, 20, 20, 20};
        for (int grouping = 0; grouping < 8; grouping++) {
            due("topSum(" + grouping + ", all)", x.topSum(grouping, ALL), sums[grouping]);
            due("topSum(" + grouping + ", none)", x.topSum(grouping, 0), NONE);
            due("topSum(" + grouping + ", an empty region)", x.topSum(grouping, filter(4, 31, 63)), NONE);
        }
        due("topSum has only what passes", x.topSum(1, filter(15, 31, 1 + 16)), 10);
        due("topSum below zero is not lost to empty groups", x.topSum(1, filter(15, 31, 4 + 8 + 16)), -2);
        badGroupings(10, x);
        dueUnchangedSample("topSum", x);
        due("topSum at its most", full(119, 50).topSum(7, ALL), 2000);
        due("topSum at its least", full(119, -50).topSum(0, ALL), -2000);
    }

    private static void promise11TopGroup() {
        CubeViews x = sample();
        int[] places = {0, 0, 0, 0, 100, 103, 116, 119};
        for (int grouping = 0; grouping < 8; grouping++) {
            due("topGroup(" + grouping + ", all)", x.topGroup(grouping, ALL), places[grouping]);
            due("topGroup(" + grouping + ", none)", x.topGroup(grouping, 0), NONE);
        }
        due("topGroup has only what passes", x.topGroup(3, filter(15, 31, 4 + 8 + 32)), 19);
        due("topGroup of negative sums", x.topGroup(5, filter(15, 31, 8 + 16)), 61);
        badGroupings(11, x);
        dueUnchangedSample("topGroup", x);

        // The least number wins a tie, whichever fact came first.
        CubeViews tie = new CubeViews();
        tie.add(place(3, 0, 0), 5);
        tie.add(place(0, 4, 0), 5);
        tie.add(place(0, 0, 5), 5);
        due("tie of all", tie.topGroup(7, ALL), 3);
        due("tie without the first", tie.topGroup(7, filter(7, 31, 63)), 16);
        due("tie by month and region", tie.topGroup(5, filter(15, 15, 63)), 3);
        due("no tie by kind", tie.topGroup(2, ALL), 0);
        due("the place of a group by kind and month", tie.topGroup(6, filter(15, 31, 32)), 100);
        CubeViews late = new CubeViews();
        late.add(119, -7);
        late.add(60, -7);
        late.add(1, -8);
        due("tie below zero", late.topGroup(7, ALL), 60);
    }

    private static void promise12Quarter() {
        CubeViews x = new CubeViews();
        int[] amounts = {1, 2, 4, 8, 16, 32};
        for (int region = 0; region < 4; region++) {
            for (int month = 0; month < 6; month++) {
                x.add(place(region, (region + month) % 5, month), amounts[month] + region);
            }
        }
        for (int region = 0; region < 4; region++) {
            due("quarter(0, " + region + ")", x.quarter(0, region), 7 + 3 * region);
            due("quarter(1, " + region + ")", x.quarter(1, region), 56 + 3 * region);
        }
        int[] badQuarters = {-1, 2, FAR[0], FAR[1]};
        for (int bad : badQuarters) {
            due("quarter(" + bad + ", 0)", x.quarter(bad, 0), BAD_ARG);
        }
        int[] badRegions = {-1, 4, FAR[0], FAR[1]};
        for (int bad : badRegions) {
            due("quarter(0, " + bad + ")", x.quarter(0, bad), BAD_ARG);
            due("quarter(1, " + bad + ")", x.quarter(1, bad), BAD_ARG);
        }
    }

    private static void promise13Growth() {
        CubeViews x = sample();
        int[] growths = {0, -10, -2, -4, -6, 32};
        for (int m = 1; m <= 5; m++) {
            due("growth(" + m + ")", x.growth(m), growths[m]);
        }
        int[] bad = {0, 6, -1, FAR[0], FAR[1]};
        for (int m : bad) {
            due("growth(" + m + ")", x.growth(m), BAD_ARG);
        }
        dueUnchangedSample("growth", x);

        // Every region and every kind has a share in the sum for a month.
        CubeViews y = new CubeViews();
        for (int p = 40; p < 60; p++) {
            y.add(p, 1);
            y.add(p + 20, 3);
        }
        due("growth into month 2", y.growth(2), 20);
        due("growth into month 3", y.growth(3), 40);
        due("growth into month 4", y.growth(4), -60);
        due("growth between empty months", y.growth(5), 0);
    }

    private static void promise14AtLeast() {
        CubeViews x = sample();
        due("atLeast by region, all", x.atLeast(1, -6), 3);
        due("atLeast by region, just above the least", x.atLeast(1, -5), 2);
        due("atLeast by region, the greatest", x.atLeast(1, 8), 2);
        due("atLeast by region, above the greatest", x.atLeast(1, 9), 0);
        due("atLeast of the whole", x.atLeast(0, 10), 1);
        due("atLeast above the whole", x.atLeast(0, 11), 0);
        due("atLeast by month", x.atLeast(4, -6), 4);
        int[] numbers = {1, 3, 3, 3, 5, 5, 5, 5};
        for (int grouping = 0; grouping < 8; grouping++) {
            due("atLeast(" + grouping + ", least int)", x.atLeast(grouping, FAR[0]), numbers[grouping]);
            due("atLeast(" + grouping + ", greatest int)", x.atLeast(grouping, FAR[1]), 0);
        }
        int[] bad = {-1, 8, FAR[0], FAR[1]};
        for (int grouping : bad) {
            due("atLeast(" + grouping + ", 0)", x.atLeast(grouping, 0), BAD_ARG);
        }
        dueUnchangedSample("atLeast", x);
        CubeViews y = new CubeViews();
        y.add(0, 5);
        y.add(0, -5);
        due("a group whose facts cancel still counts", y.atLeast(7, 0), 1);
        due("empty groups don't count", y.atLeast(7, -1), 1);
    }

    private static void promise15Plan() {
        CubeViews x = sample();
        for (int room = 0; room <= 200; room++) {
            due("plan(" + room + ")", x.plan(room), 0);
        }
        int[] bad = {-1, 201, FAR[0], FAR[1]};
        for (int room : bad) {
            due("plan(" + room + ")", x.plan(room), BAD_ARG);
        }
        due("topSum after plan", x.topSum(7, ALL), 20);
        due("change after plan", x.change(4, 21), 20);
        due("topSum after plan and change", x.topSum(7, ALL), 21);
        due("change back", x.change(4, 20), 21);
        dueUnchangedSample("plan", x);
        due("plan on a new one", new CubeViews().plan(0), 0);
        due("wrong plan on a new one", new CubeViews().plan(201), BAD_ARG);
    }

    private static void promise16OrderAndLimits() {
        CubeViews x = new CubeViews();
        badFilters(8, x);
        badGroupings(10, x);
        badGroupings(11, x);
        due("then NONE for greatest", x.greatest(ALL), NONE);
        due("then NONE for topSum", x.topSum(0, 0), NONE);
        due("then NONE for topGroup", x.topGroup(7, 0), NONE);
    }

    private static void badFilters(int promise, CubeViews x) {
        int[] bad = {-1, 32768, 32769, 65535, -32768, FAR[0], FAR[1]};
        for (int filter : bad) {
            due("promise " + promise + " with filter " + filter, ask(promise, x, 0, filter), BAD_ARG);
        }
    }

    private static void badGroupings(int promise, CubeViews x) {
        badFilters(promise, x);
        int[] bad = {-1, 8, 9, -8, FAR[0], FAR[1]};
        for (int grouping : bad) {
            due("promise " + promise + " with grouping " + grouping, ask(promise, x, grouping, ALL), BAD_ARG);
            due("promise " + promise + " with both wrong", ask(promise, x, grouping, -1), BAD_ARG);
        }
    }

    private static int ask(int promise, CubeViews x, int grouping, int filter) {
        switch (promise) {
            case 6: return x.count(filter);
            case 7: return x.sum(filter);
            case 8: return x.greatest(filter);
            case 9: return x.groups(grouping, filter);
            case 10: return x.topSum(grouping, filter);
            default: return x.topGroup(grouping, filter);
        }
    }

    public static void main(String[] args) {
        promise1NewObject();
        promise2Add();
        promise3Remove();
        promise4Change();
        promise5Facts();
        promise6Count();
        promise7Sum();
        promise8Greatest();
        promise9Groups();
        promise10TopSum();
        promise11TopGroup();
        promise12Quarter();
        promise13Growth();
        promise14AtLeast();
        promise15Plan();
        promise16OrderAndLimits();
        System.out.println(wrong == 0 ? "all answers are as due" : wrong + " answers are not as due");
        if (wrong != 0) {
            System.exit(1);
        }
    }
}
