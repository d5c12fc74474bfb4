/** Changes and undo (section 8): what is a change, how many can be undone and which, and what comes back. */
public final class UndoEdgesTest {
    private static final int NONE = ToplistHouse.NONE;

    public static void main(String[] args) {
        nothingDifferentIsAChange();
        changesWithoutADifferenceTakePlaces();
        upToEight();
        latestFirst();
        noneLeft();
        undoneOnesLeaveRoom();
        noRedo();
        whatFellOutStaysOut();
        eachChangeUndoneLeavesNoTrace();
        beginningAnewTakesAndUndoGivesBack();
        widthAndCountersComeBack();
        pushComesBack();
        rowsComeBack();
        looksAreNoChanges();
        housesAreApart();
        Check.finish();
    }

    /** "are changes if they throw no exception, even if nothing is different afterwards". */
    private static void nothingDifferentIsAChange() {
        Twins.Use[] changes = {h -> h.put(0, 0, 90), h -> h.setWeight(0, 1), h -> h.setRule(ToplistHouse.SUM),
            h -> h.setCosts(1, 1), h -> h.setWindow(5, 2)};
        for (int i = 0; i < changes.length; i++) {
            ToplistHouse house = new ToplistHouse();
            house.put(4, 4, 44);
            String before = Look.at(house);
            changes[i].on(house);
            Check.due("8 nothing different by change " + i, () -> Look.at(house), before);
            Check.due("9 it is the latest, change " + i, house::undo, 1);
            Check.due("9 nothing different by undo, change " + i, () -> Look.at(house), before);
            Check.due("9 then the one before it, change " + i, house::undo, 0);
            Check.due("9 which is different, change " + i, () -> house.itemCount(4), 0);
            Check.due("9 then none, change " + i, house::undo, NONE);
        }
    }

    private static void changesWithoutADifferenceTakePlaces() {
        for (int more = 6; more <= 9; more++) {
            ToplistHouse house = new ToplistHouse();
            house.put(4, 4, 44);
            for (int change = 0; change < more; change++) {
                house.setRule(ToplistHouse.SUM);
            }
            int due = Math.min(more + 1, 8);
            String what = " with " + more + " more";
            Check.due("9 can be undone" + what, () -> Houses.countUndone(house), due);
            int items = more < 8 ? 0 : 1;
            Check.due("9 the first one" + what, () -> house.itemCount(4), items);
        }
    }

    private static void upToEight() {
        for (int changes : new int[] {0, 1, 2, 7, 8, 9, 10, 16, 17, 100, 300}) {
            ToplistHouse house = new ToplistHouse();
            for (int change = 0; change < changes; change++) {
                house.push(change % 100);
            }
            for (int left = Math.min(changes, 8) - 1; left >= 0; left--) {
                int due = left;
                Check.due("9 of " + changes + " changes, left", house::undo, due);
            }
            Check.due("9 of " + changes + " changes, none left", house::undo, NONE);
            int stay = Math.max(changes - 8, 0);
            Check.due("9 of " + changes + " changes these stay", () -> house.setWindow(1, 1), stay);
        }
    }

    private static void latestFirst() {
        ToplistHouse house = new ToplistHouse();
        house.put(0, 0, 1);
        house.drop(0, 1);
        house.setWeight(0, 5);
        house.setRule(ToplistHouse.GREATEST);
        house.setCosts(7, 8);
        house.setWindow(2, 3);
        house.push(9);
        house.push(4);
        Check.due("9 push", house::undo, 7);
        Check.due("9 push undone", () -> house.came(4) * 10 + house.came(9), 1);
        Check.due("9 the push before", house::undo, 6);
        Check.due("9 the push before undone", house::windowSize, 0);
        Check.due("9 setWindow", house::undo, 5);
        // The depth 1 has read an item of each of three rows, which are of the things 2 and 1.
        Check.due("9 the costs still stand", () -> house.cost(1), 3 * 7 + 8 * 8);
        Check.due("9 setCosts", house::undo, 4);
        Check.due("9 setCosts undone", () -> house.cost(1), 3 + 8);
        Check.due("9 the rule still stands", () -> house.value(2), 350);
        Check.due("9 setRule", house::undo, 3);
        Check.due("9 setRule undone", () -> house.value(2), 350 + 75 + 95);
        Check.due("9 setWeight", house::undo, 2);
        Check.due("9 setWeight undone", () -> house.value(2), 240);
        Check.due("9 the drop still stands", () -> house.itemCount(0), 3);
        Check.due("9 drop", house::undo, 1);
        Check.due("9 drop undone", () -> house.thingAt(0, 0) * 100 + house.markAt(0, 0), 180);
        Check.due("9 the put still stands", () -> house.placeOf(0, 0), 3);
        Check.due("9 put", house::undo, 0);
        Check.due("9 put undone", () -> Look.at(house), Look.at(new ToplistHouse()));
    }

    /** "NONE, and nothing is different, if there was none to undo". */
    private static void noneLeft() {
        Check.due("9 a new house", () -> Look.difference(Twins.traces(ToplistHouse::new, h -> h.undo()),
                Twins.traces(ToplistHouse::new, h -> "none")), "none");
        ToplistHouse house = Houses.lived();
        Check.due("9 eight of many", () -> Houses.countUndone(house), 8);
        String before = Look.at(house);
        for (int again = 0; again < 10; again++) {
            Check.due("9 none left", house::undo, NONE);
        }
        Check.due("9 none left, nothing different", () -> Look.at(house), before);
        house.push(61);
        house.push(62);
        Check.due("9 new changes can be undone", house::undo, 1);
        Check.due("9 the first of them stays", () -> house.came(61) * 10 + house.came(62), 10);
        Check.due("9 and can be undone", house::undo, 0);
        Check.due("9 none left again", house::undo, NONE);
        Check.due("9 as before", () -> Look.at(house), before);
    }

    /** Five are left of eight; with five new ones the two oldest fall out. */
    private static void undoneOnesLeaveRoom() {
        ToplistHouse house = new ToplistHouse();
        for (int thing = 0; thing < 8; thing++) {
            house.put(3, thing, 50);
        }
        for (int left = 7; left >= 5; left--) {
            int due = left;
            Check.due("9 of eight, left", house::undo, due);
        }
        for (int thing = 10; thing < 15; thing++) {
            house.put(3, thing, 50);
        }
        Check.due("9 five old ones, five new ones", () -> house.itemCount(3), 10);
        Check.due("9 eight of these ten", house::undo, 7);
        Check.due("9 the latest new one", () -> house.itemCount(3), 9);
        Check.due("9 the others", () -> Houses.countUndone(house), 7);
        Check.due("9 the two oldest stay", () -> house.itemCount(3), 2);
        Check.due("9 which are the first two", () -> house.thingAt(3, 1), 1);
    }

    /** "there is no redo", and undo is no change itself. */
    private static void noRedo() {
        ToplistHouse house = new ToplistHouse();
        house.put(3, 1, 10);
        house.put(3, 1, 20);
        Check.due("9 the latest", house::undo, 1);
        Check.due("9 not undo itself", house::undo, 0);
        Check.due("9 all undone", () -> house.itemCount(3), 0);
        Check.due("9 none left", house::undo, NONE);
        house.put(3, 1, 30);
        house.put(3, 1, 40);
        house.undo();
        house.put(3, 1, 50);
        Check.due("9 back to the one that was not undone", house::undo, 1);
        Check.due("9 its mark", () -> house.markAt(3, 0), 30);
        Check.due("9 and back to none", house::undo, 0);
        Check.due("9 no item", () -> house.itemCount(3), 0);
    }

    private static void whatFellOutStaysOut() {
        ToplistHouse house = new ToplistHouse();
        for (int thing = 0; thing < 9; thing++) {
            house.put(4, thing, 50);
        }
        Check.due("9 eight", () -> Houses.countUndone(house), 8);
        house.put(4, 19, 1);
        Check.due("9 the new one alone", house::undo, 0);
        Check.due("9 none left", house::undo, NONE);
        Check.due("9 the first of nine stays", () -> house.itemCount(4) * 100 + house.thingAt(4, 0), 100);
    }

    private static void eachChangeUndoneLeavesNoTrace() {
        Twins.Maker some = () -> {
            ToplistHouse house = Houses.pushed(4, 8, 4);
            house.setRule(ToplistHouse.GREATEST);
            return house;
        };
        Twins.Use[] changes = {h -> h.put(0, 0, 0), h -> h.put(4, 19, 99), h -> h.put(1, 2, 85), h -> h.drop(0, 0),
            h -> h.drop(2, 4), h -> h.setWeight(0, 0), h -> h.setWeight(4, 5), h -> h.setRule(ToplistHouse.LEAST),
            h -> h.setRule(ToplistHouse.SUM), h -> h.setCosts(0, 99), h -> h.setCosts(99, 0), h -> h.setWindow(1, 1),
            h -> h.setWindow(10, 4), h -> h.setWindow(5, 2), h -> h.push(0), h -> h.push(99), h -> h.push(4)};
        for (Twins.Maker maker : new Twins.Maker[] {ToplistHouse::new, some}) {
            String untouched = Twins.traces(maker, h -> "none");
            for (int i = 0; i < changes.length; i++) {
                Twins.Use change = changes[i];
                String traces = Twins.traces(maker, h -> change.on(h) + " " + h.undo());
                Check.due("9 change " + i + " undone", () -> Look.difference(traces, untouched), "none");
            }
        }
    }

    /** "To set w or m begins anew: nothing came by, and no counter has a number." */
    private static void beginningAnewTakesAndUndoGivesBack() {
        ToplistHouse house = new ToplistHouse();
        house.setWindow(3, 2);
        for (int number : new int[] {5, 6, 7, 8}) {
            house.push(number);
        }
        // 7 took 5 and 6 from the counters.
        String before = Look.at(house);
        Check.due("7 what came by", () -> house.setWindow(3, 2), 4);
        Check.due("40 nothing came by", house::windowSize, 0);
        Check.due("42 nothing came by", house::unlike, 0);
        Check.due("45 nothing came by", house::bound, 0);
        for (int number = 0; number < 100; number++) {
            int n = number;
            Check.due("43 no counter has " + n, () -> house.counted(n), 0);
            Check.due("44 nothing came by, " + n, () -> house.came(n), 0);
        }
        Check.due("7 nothing came by", () -> house.setWindow(3, 2), 0);
        house.push(91);
        house.push(92);
        Check.due("43 both counters were free", () -> house.counted(91) * 10 + house.counted(92), 11);
        Check.due("45 so none counted less", house::bound, 0);
        Check.due("9 the second of two numbers", house::undo, 7);
        Check.due("9 the first one", house::undo, 6);
        Check.due("9 the second setWindow", house::undo, 5);
        Check.due("9 the first setWindow", house::undo, 4);
        Check.due("9 all is back", () -> Look.at(house), before);
        Check.due("41 the window is back", () -> house.windowAt(0) * 100 + house.windowAt(1) * 10 + house.windowAt(2),
                876);
        Check.due("45 the bound is back", house::bound, 1);
        Check.due("43 the counter is back", () -> house.counted(8), 1);
        Check.due("8 the oldest leaves", () -> house.push(9), 6);
        Check.due("43 the other counter was free", () -> house.counted(9) * 10 + house.bound(), 11);
        Check.due("7 all that came by is back", () -> house.setWindow(1, 1), 5);
    }

    private static void widthAndCountersComeBack() {
        for (int width : new int[] {1, 5, 10}) {
            for (int counters = 1; counters <= 4; counters++) {
                ToplistHouse house = new ToplistHouse();
                house.setWindow(width, counters);
                house.setWindow(11 - width, 5 - counters);
                house.undo();
                for (int number = 0; number < 12; number++) {
                    int leaves = number < width ? NONE : number - width;
                    int n = number;
                    Check.due("9 width " + width + " is back, push " + n, () -> house.push(n), leaves);
                    int bound = (number + 1) / (counters + 1);
                    Check.due("9 " + counters + " counters are back, push " + n, house::bound, bound);
                }
            }
        }
    }

    private static void pushComesBack() {
        ToplistHouse house = Houses.pushed(1, 1, 2, 3, 4);
        // 1 has 1, as 3 took one from 1 and from 2; 4 has the other counter.
        Check.due("8 a number leaves", () -> house.push(50), 1);
        Check.due("45 all counted 1 less", house::bound, 2);
        Check.due("43 none is left", () -> house.counted(1) + house.counted(4) + house.counted(50), 0);
        house.undo();
        Check.due("45 the bound is back", house::bound, 1);
        Check.due("43 the counters are back", () -> house.counted(1) * 10 + house.counted(4), 11);
        Check.due("44 it did not come", () -> house.came(50), 0);
        Check.due("41 not in the window", () -> house.windowAt(0), 4);
        Check.due("8 the same one leaves again", () -> house.push(4), 1);
        Check.due("43 one more", () -> house.counted(4), 2);
        house.undo();
        Check.due("43 one less again", () -> house.counted(4), 1);
        house.undo();
        Check.due("43 the counter has no number again", () -> house.counted(4), 0);
        Check.due("40 one less", house::windowSize, 4);
        Check.due("8 none leaves again", () -> house.push(60), NONE);
    }

    private static void rowsComeBack() {
        ToplistHouse house = Houses.of(1, 3, 50, 1, 7, 50, 1, 9, 50);
        house.drop(1, 7);
        house.undo();
        Check.due("9 dropped, back at its place among the same marks", () -> house.placeOf(1, 7), 1);
        house.put(1, 7, 99);
        house.undo();
        Check.due("9 its mark is back", () -> house.markAt(1, 1) * 100 + house.thingAt(1, 1), 5007);
        house.put(2, 0, 0);
        house.undo();
        Check.due("9 a new one is known no more", house::knownCount, 3);
        Check.due("9 a new one has no item", () -> house.itemCount(2), 0);
        house.drop(1, 3);
        Check.due("15 known no more", house::knownCount, 2);
        house.undo();
        Check.due("9 known again", () -> house.rankOf(3), 0);
    }

    private static void looksAreNoChanges() {
        ToplistHouse house = new ToplistHouse();
        house.put(3, 3, 3);
        Look.at(house);
        house.holds(20, 4, 19, 99);
        Check.due("9 the change ahead of all looks", house::undo, 0);
        Check.due("9 it is undone", () -> house.itemCount(3), 0);
        Check.due("9 no look can be undone", house::undo, NONE);
    }

    private static void housesAreApart() {
        ToplistHouse one = new ToplistHouse();
        ToplistHouse other = new ToplistHouse();
        one.put(3, 3, 3);
        one.push(9);
        Check.due("9 nothing to undo in another house", other::undo, NONE);
        Check.due("1 another house is new", () -> Look.at(other), Look.at(new ToplistHouse()));
        other.setRule(ToplistHouse.LEAST);
        Check.due("9 two in the one", one::undo, 1);
        Check.due("9 one in the other", other::undo, 0);
    }
}
