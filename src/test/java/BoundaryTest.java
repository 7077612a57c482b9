/**
 * A test of its own for each boundary case that a sentence of the document names; the sentence stands
 * above its tests. No object is used for more than its 512 calls.
 */
public final class BoundaryTest {
    private static final int MIN = Sets.MIN;
    private static final int MAX = Sets.MAX;
    private static final int NONE = FlatQueue.NONE;

    public static void main(String[] args) {
        Check.runTestsOf(BoundaryTest.class);
        Check.finish();
    }

    // What it is: "Keeps a set of numbers from 0 to 255"

    private static void p00EveryNumberFrom0To255CanBeTheOnlyMember() {
        for (int x = 0; x <= 255; x++) {
            FlatQueue queue = Sets.setOf(x);
            Check.due("member(" + x + ")", queue.member(x), true);
            Check.due("size() with " + x, queue.size(), 1);
            Check.due("least() with " + x, queue.least(), x);
            Check.due("greatest() with " + x, queue.greatest(), x);
        }
    }

    private static void p00AllNumbersFrom0To255CanBeMembersAtOnce() {
        Sets.dueFull("filled upwards", Sets.fullSet());
        FlatQueue queue = new FlatQueue();
        for (int x = 255; x >= 0; x--) {
            Check.due("insert(" + x + ") downwards", queue.insert(x), true);
        }
        Sets.dueFull("filled downwards", queue);
    }

    // What it is: "An object is used for at most 512 calls after it has been made"

    private static void p00The512thCallStillTakes() {
        FlatQueue queue = Sets.fullSet();
        for (int x = 0; x <= 254; x++) {
            Check.due("takeLeast() after " + x + " others", queue.takeLeast(), x);
        }
        Check.due("takeLeast() as call 512", queue.takeLeast(), 255);
    }

    private static void p00The512thCallStillInserts() {
        FlatQueue queue = new FlatQueue();
        for (int i = 0; i < 255; i++) {
            Check.due("insert(7), round " + i, queue.insert(7), true);
            Check.due("delete(7), round " + i, queue.delete(7), true);
        }
        Check.due("member(7) as call 511", queue.member(7), false);
        Check.due("insert(7) as call 512", queue.insert(7), true);
    }

    private static void p00RefusedCallsUpToThe511thLeaveThe512thRight() {
        FlatQueue queue = Sets.setOf(255);
        for (int i = 0; i < 255; i++) {
            Check.due("insert(256), round " + i, queue.insert(256), false);
            Check.due("delete(0), round " + i, queue.delete(0), false);
        }
        Check.due("greatest() as call 512", queue.greatest(), 255);
    }

    // Promise 1: "The empty set."

    private static void p01NewObjectIsEmpty() {
        Sets.dueMembers("new", new FlatQueue());
    }

    private static void p01NewObjectAnswersEachCallAsTheEmptySet() {
        FlatQueue queue = new FlatQueue();
        Check.due("after(-1)", queue.after(-1), NONE);
        Check.due("before(256)", queue.before(256), NONE);
        Check.due("countBetween(0, 255)", queue.countBetween(0, 255), 0);
        Check.due("select(0)", queue.select(0), NONE);
        Check.due("gapFrom(0)", queue.gapFrom(0), 0);
        Check.due("nearest(0)", queue.nearest(0), NONE);
        Check.due("deleteBetween(0, 255)", queue.deleteBetween(0, 255), 0);
        Check.due("takeLeast()", queue.takeLeast(), NONE);
        Check.due("takeGreatest()", queue.takeGreatest(), NONE);
    }

    private static void p01NewObjectIsEmptyBesideAFullOne() {
        FlatQueue full = Sets.fullSet();
        Sets.dueMembers("new beside a full one", new FlatQueue());
        Sets.dueFull("full beside a new one", full);
    }

    // Promise 2: "Puts x into the set and answers true"

    private static void p02InsertOf0() {
        FlatQueue queue = new FlatQueue();
        Check.due("insert(0)", queue.insert(0), true);
        Sets.dueMembers("after insert(0)", queue, 0);
    }

    private static void p02InsertOf255() {
        FlatQueue queue = new FlatQueue();
        Check.due("insert(255)", queue.insert(255), true);
        Sets.dueMembers("after insert(255)", queue, 255);
    }

    private static void p02InsertOfTheLastOneMissing() {
        FlatQueue queue = Sets.fullSet();
        Check.due("delete(128)", queue.delete(128), true);
        Check.due("insert(128)", queue.insert(128), true);
        Sets.dueFull("after insert(128)", queue);
    }

    private static void p02InsertIntoAnEmptiedSet() {
        FlatQueue queue = Sets.emptiedSet();
        Check.due("insert(10)", queue.insert(10), true);
        Sets.dueMembers("after insert(10)", queue, 10);
    }

    // Promise 2: "false, changing nothing, when it is in it"

    private static void p02InsertOfAMember() {
        FlatQueue queue = Sets.setOf(0, 10, 255);
        int[] members = {0, 10, 255};
        for (int x : members) {
            Check.due("insert(" + x + ") again", queue.insert(x), false);
        }
        Sets.dueMembers("after the refused inserts", queue, members);
    }

    private static void p02InsertOfAMemberIsTakenOutByOneDelete() {
        FlatQueue queue = Sets.setOf(10);
        Check.due("insert(10) again", queue.insert(10), false);
        Check.due("delete(10)", queue.delete(10), true);
        Sets.dueMembers("after delete(10)", queue);
    }

    private static void p02InsertIntoTheFullSet() {
        FlatQueue queue = Sets.fullSet();
        for (int x = 0; x <= 250; x++) {
            Check.due("insert(" + x + ") into the full set", queue.insert(x), false);
        }
        Check.due("insert(255) into the full set", queue.insert(255), false);
        Sets.dueFull("after the refused inserts", queue);
    }

    // Promise 2: "false, changing nothing, when it is [...] not 0 .. 255."

    private static void p02InsertTooSmall() {
        dueInsertsRefused(new FlatQueue(), Sets.TOO_SMALL);
        dueInsertsRefused(Sets.setOf(0, 10, 255), Sets.TOO_SMALL, 0, 10, 255);
    }

    private static void p02InsertTooLarge() {
        dueInsertsRefused(new FlatQueue(), Sets.TOO_LARGE);
        dueInsertsRefused(Sets.setOf(0, 10, 255), Sets.TOO_LARGE, 0, 10, 255);
    }

    private static void dueInsertsRefused(FlatQueue queue, int[] numbers, int... members) {
        for (int x : numbers) {
            Check.due("insert(" + x + ")", queue.insert(x), false);
        }
        Sets.dueMembers("after the refused inserts", queue, members);
    }

    // Promise 3: "Takes x out of the set and answers true"

    private static void p03DeleteOf0() {
        FlatQueue queue = Sets.setOf(0, 1, 255);
        Check.due("delete(0)", queue.delete(0), true);
        Sets.dueMembers("after delete(0)", queue, 1, 255);
    }

    private static void p03DeleteOf255() {
        FlatQueue queue = Sets.setOf(0, 254, 255);
        Check.due("delete(255)", queue.delete(255), true);
        Sets.dueMembers("after delete(255)", queue, 0, 254);
    }

    private static void p03DeleteOfTheOnlyMember() {
        FlatQueue queue = Sets.setOf(10);
        Check.due("delete(10)", queue.delete(10), true);
        Sets.dueMembers("after delete(10)", queue);
    }

    private static void p03DeleteFromTheFullSet() {
        FlatQueue queue = Sets.fullSet();
        Check.due("delete(128)", queue.delete(128), true);
        Check.due("member(128) then", queue.member(128), false);
        Check.due("gapFrom(0) then", queue.gapFrom(0), 128);
        Check.due("gapFrom(129) then", queue.gapFrom(129), NONE);
        Check.due("size() then", queue.size(), 255);
    }

    // Promise 3: "false, changing nothing, when it is not in it."

    private static void p03DeleteOfAnAbsentNumber() {
        FlatQueue queue = Sets.setOf(1, 10, 254);
        int[] absent = {0, 2, 9, 11, 128, 253, 255};
        dueDeletesRefused(queue, absent, 1, 10, 254);
    }

    private static void p03DeleteTwice() {
        FlatQueue queue = Sets.setOf(9, 10, 11);
        Check.due("delete(10)", queue.delete(10), true);
        Check.due("delete(10) again", queue.delete(10), false);
        Sets.dueMembers("after delete(10) twice", queue, 9, 11);
    }

    private static void p03DeleteFromTheEmptySet() {
        int[] numbers = {0, 10, 11, 128, 255, NONE};
        dueDeletesRefused(new FlatQueue(), numbers);
        dueDeletesRefused(Sets.emptiedSet(), numbers);
    }

    private static void p03DeleteTooSmall() {
        dueDeletesRefused(Sets.setOf(0, 10, 255), Sets.TOO_SMALL, 0, 10, 255);
    }

    private static void p03DeleteTooLarge() {
        dueDeletesRefused(Sets.setOf(0, 10, 255), Sets.TOO_LARGE, 0, 10, 255);
    }

    private static void dueDeletesRefused(FlatQueue queue, int[] numbers, int... members) {
        for (int x : numbers) {
            Check.due("delete(" + x + ")", queue.delete(x), false);
        }
        Sets.dueMembers("after the refused deletes", queue, members);
    }

    // Promise 4: "Whether x is in the set."

    private static void p04MemberAtTheEnds() {
        FlatQueue ends = Sets.setOf(0, 255);
        Check.due("member(0)", ends.member(0), true);
        Check.due("member(1)", ends.member(1), false);
        Check.due("member(254)", ends.member(254), false);
        Check.due("member(255)", ends.member(255), true);
    }

    private static void p04MemberOfTheEmptySet() {
        FlatQueue emptied = Sets.emptiedSet();
        FlatQueue fresh = new FlatQueue();
        for (int x = 0; x <= 255; x++) {
            Check.due("member(" + x + ") when new", fresh.member(x), false);
            Check.due("member(" + x + ") when emptied", emptied.member(x), false);
        }
    }

    private static void p04MemberOfTheFullSet() {
        FlatQueue full = Sets.fullSet();
        for (int x = 0; x <= 255; x++) {
            Check.due("member(" + x + ") when full", full.member(x), true);
        }
    }

    private static void p04MemberTooSmall() {
        FlatQueue full = Sets.fullSet();
        for (int x : Sets.TOO_SMALL) {
            Check.due("member(" + x + ") when full", full.member(x), false);
            Check.due("member(" + x + ") when new", new FlatQueue().member(x), false);
        }
    }

    private static void p04MemberTooLarge() {
        FlatQueue full = Sets.fullSet();
        for (int x : Sets.TOO_LARGE) {
            Check.due("member(" + x + ") when full", full.member(x), false);
            Check.due("member(" + x + ") when new", new FlatQueue().member(x), false);
        }
    }

    // Promise 5: "The number of members."

    private static void p05SizeOfTheEmptySet() {
        Check.due("size() when new", new FlatQueue().size(), 0);
        Check.due("size() when emptied", Sets.emptiedSet().size(), 0);
    }

    private static void p05SizeOfTheFullSet() {
        Check.due("size() when full", Sets.fullSet().size(), 256);
    }

    private static void p05SizeAtEachStepUpToFull() {
        FlatQueue queue = new FlatQueue();
        for (int x = 0; x <= 255; x++) {
            queue.insert(x);
            Check.due("size() after insert(" + x + ")", queue.size(), x + 1);
        }
    }

    private static void p05SizeAfterRefusedCalls() {
        FlatQueue queue = Sets.setOf(0, 10, 255);
        queue.insert(10);
        Check.due("size() after insert(10) again", queue.size(), 3);
        queue.insert(-1);
        Check.due("size() after insert(-1)", queue.size(), 3);
        queue.insert(256);
        Check.due("size() after insert(256)", queue.size(), 3);
        queue.delete(11);
        Check.due("size() after delete(11)", queue.size(), 3);
        queue.deleteBetween(255, 0);
        Check.due("size() after deleteBetween(255, 0)", queue.size(), 3);
    }

    private static void p05SizeAfterTakingFromTheEmptySet() {
        FlatQueue queue = Sets.emptiedSet();
        queue.takeLeast();
        Check.due("size() after takeLeast()", queue.size(), 0);
        queue.takeGreatest();
        Check.due("size() after takeGreatest()", queue.size(), 0);
    }

    // Promise 6: "The least member; NONE when there is none."

    private static void p06LeastOfTheEmptySet() {
        Check.due("least() when new", new FlatQueue().least(), NONE);
        Check.due("least() when emptied", Sets.emptiedSet().least(), NONE);
    }

    private static void p06LeastAtTheEnds() {
        Check.due("least() of 0 alone", Sets.setOf(0).least(), 0);
        Check.due("least() of 255 alone", Sets.setOf(255).least(), 255);
        Check.due("least() of 255 and 0", Sets.setOf(255, 0).least(), 0);
    }

    private static void p06LeastOfTheFullSet() {
        Check.due("least() when full", Sets.fullSet().least(), 0);
    }

    // Promise 7: "The greatest member; NONE when there is none."

    private static void p07GreatestOfTheEmptySet() {
        Check.due("greatest() when new", new FlatQueue().greatest(), NONE);
        Check.due("greatest() when emptied", Sets.emptiedSet().greatest(), NONE);
    }

    private static void p07GreatestAtTheEnds() {
        Check.due("greatest() of 0 alone", Sets.setOf(0).greatest(), 0);
        Check.due("greatest() of 255 alone", Sets.setOf(255).greatest(), 255);
        Check.due("greatest() of 255 and 0", Sets.setOf(255, 0).greatest(), 255);
    }

    private static void p07GreatestOfTheFullSet() {
        Check.due("greatest() when full", Sets.fullSet().greatest(), 255);
    }

    // Promise 8: "The least member greater than x"

    private static void p08AfterAMemberIsNotThatMember() {
        FlatQueue queue = Sets.setOf(0, 10, 11, 255);
        Check.due("after(0)", queue.after(0), 10);
        Check.due("after(10)", queue.after(10), 11);
        Check.due("after(11)", queue.after(11), 255);
    }

    private static void p08AfterTheNumberNextToAMember() {
        FlatQueue queue = Sets.setOf(0, 10, 255);
        Check.due("after(-1)", queue.after(-1), 0);
        Check.due("after(9)", queue.after(9), 10);
        Check.due("after(254)", queue.after(254), 255);
    }

    // Promise 8: "x (which may be any int)"

    private static void p08AfterTooSmall() {
        for (int x : Sets.TOO_SMALL) {
            Check.due("after(" + x + ") with 0", Sets.setOf(0, 10).after(x), 0);
            Check.due("after(" + x + ") with 255 alone", Sets.setOf(255).after(x), 255);
        }
    }

    private static void p08AfterTooLarge() {
        FlatQueue full = Sets.fullSet();
        for (int x : Sets.TOO_LARGE) {
            Check.due("after(" + x + ") when full", full.after(x), NONE);
        }
    }

    private static void p08AfterTheGreatestIntDoesNotWrapAround() {
        Check.due("after(MAX) with 0", Sets.setOf(0).after(MAX), NONE);
        Check.due("after(MAX) when full", Sets.fullSet().after(MAX), NONE);
    }

    private static void p08AfterTheLeastIntDoesNotWrapAround() {
        Check.due("after(MIN) with 0", Sets.setOf(0).after(MIN), 0);
        Check.due("after(MIN) when full", Sets.fullSet().after(MIN), 0);
    }

    // Promise 8: "NONE when there is none."

    private static void p08AfterTheGreatestMember() {
        FlatQueue queue = Sets.setOf(0, 10);
        Check.due("after(9)", queue.after(9), 10);
        Check.due("after(10)", queue.after(10), NONE);
        Check.due("after(11)", queue.after(11), NONE);
        Check.due("after(255) with 10", queue.after(255), NONE);
        Check.due("after(255) when full", Sets.fullSet().after(255), NONE);
    }

    private static void p08AfterInTheEmptySet() {
        int[] numbers = {MIN, -1, 0, 9, 10, 254, 255, 256, MAX};
        for (int x : numbers) {
            Check.due("after(" + x + ") when new", new FlatQueue().after(x), NONE);
            Check.due("after(" + x + ") when emptied", Sets.emptiedSet().after(x), NONE);
        }
    }

    // Promise 9: "The greatest member less than x"

    private static void p09BeforeAMemberIsNotThatMember() {
        FlatQueue queue = Sets.setOf(0, 10, 11, 255);
        Check.due("before(255)", queue.before(255), 11);
        Check.due("before(11)", queue.before(11), 10);
        Check.due("before(10)", queue.before(10), 0);
    }

    private static void p09BeforeTheNumberNextToAMember() {
        FlatQueue queue = Sets.setOf(0, 10, 255);
        Check.due("before(1)", queue.before(1), 0);
        Check.due("before(11)", queue.before(11), 10);
        Check.due("before(256)", queue.before(256), 255);
    }

    // Promise 9: "x (which may be any int)"

    private static void p09BeforeTooLarge() {
        for (int x : Sets.TOO_LARGE) {
            Check.due("before(" + x + ") with 255", Sets.setOf(10, 255).before(x), 255);
            Check.due("before(" + x + ") with 0 alone", Sets.setOf(0).before(x), 0);
        }
    }

    private static void p09BeforeTooSmall() {
        FlatQueue full = Sets.fullSet();
        for (int x : Sets.TOO_SMALL) {
            Check.due("before(" + x + ") when full", full.before(x), NONE);
        }
    }

    private static void p09BeforeTheLeastIntDoesNotWrapAround() {
        Check.due("before(MIN) with 255", Sets.setOf(255).before(MIN), NONE);
        Check.due("before(MIN) when full", Sets.fullSet().before(MIN), NONE);
    }

    private static void p09BeforeTheGreatestIntDoesNotWrapAround() {
        Check.due("before(MAX) with 255", Sets.setOf(255).before(MAX), 255);
        Check.due("before(MAX) when full", Sets.fullSet().before(MAX), 255);
    }

    // Promise 9: "NONE when there is none."

    private static void p09BeforeTheLeastMember() {
        FlatQueue queue = Sets.setOf(10, 255);
        Check.due("before(11)", queue.before(11), 10);
        Check.due("before(10)", queue.before(10), NONE);
        Check.due("before(9)", queue.before(9), NONE);
        Check.due("before(0) with 10", queue.before(0), NONE);
        Check.due("before(0) when full", Sets.fullSet().before(0), NONE);
    }

    private static void p09BeforeInTheEmptySet() {
        int[] numbers = {MIN, -1, 0, 1, 11, 128, 255, 256, MAX};
        for (int x : numbers) {
            Check.due("before(" + x + ") when new", new FlatQueue().before(x), NONE);
            Check.due("before(" + x + ") when emptied", Sets.emptiedSet().before(x), NONE);
        }
    }

    // Promise 10: "Takes the least member out and answers it"

    private static void p10TakeLeastOf0() {
        FlatQueue queue = Sets.setOf(255, 1, 0);
        Check.due("takeLeast()", queue.takeLeast(), 0);
        Sets.dueMembers("after takeLeast()", queue, 1, 255);
    }

    private static void p10TakeLeastOfTheOnlyMember() {
        FlatQueue queue = Sets.setOf(255);
        Check.due("takeLeast()", queue.takeLeast(), 255);
        Sets.dueMembers("after takeLeast()", queue);
    }

    private static void p10TakeLeastOfTheFullSet() {
        FlatQueue queue = Sets.fullSet();
        Check.due("takeLeast()", queue.takeLeast(), 0);
        Check.due("size() then", queue.size(), 255);
        Check.due("least() then", queue.least(), 1);
        Check.due("gapFrom(1) then", queue.gapFrom(1), NONE);
    }

    // Promise 10: "NONE when there is none."

    private static void p10TakeLeastOfTheEmptySet() {
        FlatQueue fresh = new FlatQueue();
        Check.due("takeLeast() when new", fresh.takeLeast(), NONE);
        Sets.dueMembers("after takeLeast() when new", fresh);
        FlatQueue emptied = Sets.emptiedSet();
        Check.due("takeLeast() when emptied", emptied.takeLeast(), NONE);
        Check.due("takeLeast() once more", emptied.takeLeast(), NONE);
        Sets.dueMembers("after takeLeast() when emptied", emptied);
    }

    // Promise 11: "Takes the greatest member out and answers it"

    private static void p11TakeGreatestOf255() {
        FlatQueue queue = Sets.setOf(0, 254, 255);
        Check.due("takeGreatest()", queue.takeGreatest(), 255);
        Sets.dueMembers("after takeGreatest()", queue, 0, 254);
    }

    private static void p11TakeGreatestOfTheOnlyMember() {
        FlatQueue queue = Sets.setOf(0);
        Check.due("takeGreatest()", queue.takeGreatest(), 0);
        Sets.dueMembers("after takeGreatest()", queue);
    }

    private static void p11TakeGreatestOfTheFullSet() {
        FlatQueue queue = Sets.fullSet();
        Check.due("takeGreatest()", queue.takeGreatest(), 255);
        Check.due("size() then", queue.size(), 255);
        Check.due("greatest() then", queue.greatest(), 254);
        Check.due("gapFrom(0) then", queue.gapFrom(0), 255);
    }

    // Promise 11: "NONE when there is none."

    private static void p11TakeGreatestOfTheEmptySet() {
        FlatQueue fresh = new FlatQueue();
        Check.due("takeGreatest() when new", fresh.takeGreatest(), NONE);
        Sets.dueMembers("after takeGreatest() when new", fresh);
        FlatQueue emptied = Sets.emptiedSet();
        Check.due("takeGreatest() when emptied", emptied.takeGreatest(), NONE);
        Check.due("takeGreatest() once more", emptied.takeGreatest(), NONE);
        Sets.dueMembers("after takeGreatest() when emptied", emptied);
    }

    // Promise 12: "The number of members from a to b, both included."

    private static void p12CountIncludesA() {
        FlatQueue queue = Sets.setOf(0, 10, 20, 255);
        dueCount(queue, 9, 15, 1);
        dueCount(queue, 10, 15, 1);
        dueCount(queue, 11, 15, 0);
        dueCount(queue, 0, 5, 1);
    }

    private static void p12CountIncludesB() {
        FlatQueue queue = Sets.setOf(0, 10, 20, 255);
        dueCount(queue, 15, 19, 0);
        dueCount(queue, 15, 20, 1);
        dueCount(queue, 15, 21, 1);
        dueCount(queue, 250, 255, 1);
    }

    private static void p12CountFromANumberToItself() {
        FlatQueue queue = Sets.setOf(0, 10, 255);
        dueCount(queue, 0, 0, 1);
        dueCount(queue, 10, 10, 1);
        dueCount(queue, 11, 11, 0);
        dueCount(queue, 255, 255, 1);
    }

    private static void p12CountWithAGreaterThanB() {
        FlatQueue queue = Sets.setOf(0, 10, 11, 255);
        dueCount(queue, 11, 10, 0);
        dueCount(queue, 255, 0, 0);
        dueCount(queue, 256, -1, 0);
        dueCount(queue, MAX, MIN, 0);
    }

    private static void p12CountWithATooSmall() {
        for (int a : Sets.TOO_SMALL) {
            dueCount(Sets.setOf(0, 10, 11, 255), a, 10, 2);
        }
    }

    private static void p12CountWithBTooLarge() {
        for (int b : Sets.TOO_LARGE) {
            dueCount(Sets.setOf(0, 10, 11, 255), 11, b, 2);
        }
    }

    private static void p12CountWithBothTooSmall() {
        FlatQueue full = Sets.fullSet();
        for (int b : Sets.TOO_SMALL) {
            dueCount(full, MIN, b, 0);
            dueCount(full, b, -1, 0);
        }
    }

    private static void p12CountWithBothTooLarge() {
        FlatQueue full = Sets.fullSet();
        for (int a : Sets.TOO_LARGE) {
            dueCount(full, a, MAX, 0);
            dueCount(full, 256, a, 0);
        }
    }

    private static void p12CountOverAllIntsDoesNotWrapAround() {
        dueCount(Sets.setOf(0, 10, 255), MIN, MAX, 3);
        dueCount(Sets.fullSet(), MIN, MAX, 256);
    }

    private static void p12CountOfTheEmptySet() {
        dueCount(new FlatQueue(), 0, 255, 0);
        dueCount(new FlatQueue(), MIN, MAX, 0);
        dueCount(Sets.emptiedSet(), 0, 255, 0);
    }

    private static void p12CountOfTheFullSet() {
        FlatQueue full = Sets.fullSet();
        dueCount(full, 0, 255, 256);
        dueCount(full, 1, 255, 255);
        dueCount(full, 0, 254, 255);
        dueCount(full, 1, 254, 254);
    }

    private static void dueCount(FlatQueue queue, int a, int b, int want) {
        Check.due("countBetween(" + a + ", " + b + ")", queue.countBetween(a, b), want);
    }

    // Promise 13: "The member with exactly k lesser ones"

    private static void p13SelectWithNoLesserOnes() {
        Check.due("select(0) of 0 and 255", Sets.setOf(255, 0).select(0), 0);
        Check.due("select(0) of 255 alone", Sets.setOf(255).select(0), 255);
        Check.due("select(0) when full", Sets.fullSet().select(0), 0);
    }

    private static void p13SelectWithAllOthersLesser() {
        Check.due("select(2) of three", Sets.setOf(11, 10, 12).select(2), 12);
        Check.due("select(1) of 0 and 255", Sets.setOf(255, 0).select(1), 255);
        Check.due("select(255) when full", Sets.fullSet().select(255), 255);
    }

    // Promise 13: "NONE when there is none."

    private static void p13SelectOfAsManyAsThereAre() {
        Check.due("select(1) of one", Sets.setOf(10).select(1), NONE);
        Check.due("select(3) of three", Sets.setOf(0, 10, 255).select(3), NONE);
        Check.due("select(256) when full", Sets.fullSet().select(256), NONE);
    }

    private static void p13SelectTooLarge() {
        FlatQueue full = Sets.fullSet();
        for (int k : Sets.TOO_LARGE) {
            Check.due("select(" + k + ") when full", full.select(k), NONE);
        }
        Check.due("select(255) of three", Sets.setOf(0, 10, 255).select(255), NONE);
    }

    private static void p13SelectTooSmall() {
        FlatQueue full = Sets.fullSet();
        for (int k : Sets.TOO_SMALL) {
            Check.due("select(" + k + ") when full", full.select(k), NONE);
        }
    }

    private static void p13SelectInTheEmptySet() {
        int[] numbers = {MIN, -1, 0, 1, 255, MAX};
        for (int k : numbers) {
            Check.due("select(" + k + ") when new", new FlatQueue().select(k), NONE);
            Check.due("select(" + k + ") when emptied", Sets.emptiedSet().select(k), NONE);
        }
    }

    // Promise 14: "The least number from x on (x from 0 to 255) that is not a member"

    private static void p14GapFromANumberThatIsNoMember() {
        FlatQueue queue = Sets.setOf(1, 10, 12, 254);
        int[] numbers = {0, 2, 9, 11, 13, 255};
        for (int x : numbers) {
            Check.due("gapFrom(" + x + ")", queue.gapFrom(x), x);
        }
    }

    private static void p14GapFrom0() {
        Check.due("gapFrom(0) with 0", Sets.setOf(0).gapFrom(0), 1);
        Check.due("gapFrom(0) without 0", Sets.setOf(1).gapFrom(0), 0);
    }

    private static void p14GapFrom255() {
        Check.due("gapFrom(255) with 254", Sets.setOf(254).gapFrom(255), 255);
        Check.due("gapFrom(255) with 255", Sets.setOf(255).gapFrom(255), NONE);
    }

    private static void p14GapFromUpTo255() {
        FlatQueue queue = Sets.fullSet();
        queue.delete(255);
        for (int x = 0; x <= 250; x++) {
            Check.due("gapFrom(" + x + ") with 255 alone missing", queue.gapFrom(x), 255);
        }
    }

    private static void p14GapFromInTheEmptySet() {
        FlatQueue fresh = new FlatQueue();
        FlatQueue emptied = Sets.emptiedSet();
        for (int x = 0; x <= 255; x++) {
            Check.due("gapFrom(" + x + ") when new", fresh.gapFrom(x), x);
            Check.due("gapFrom(" + x + ") when emptied", emptied.gapFrom(x), x);
        }
    }

    // Promise 14: "NONE when there is none up to 255"

    private static void p14GapFromWithGapsBelowXAlone() {
        FlatQueue queue = Sets.setOf(253, 254, 255);
        Check.due("gapFrom(252)", queue.gapFrom(252), 252);
        Check.due("gapFrom(253)", queue.gapFrom(253), NONE);
        Check.due("gapFrom(254)", queue.gapFrom(254), NONE);
        Check.due("gapFrom(255)", queue.gapFrom(255), NONE);
    }

    private static void p14GapFromInTheFullSet() {
        FlatQueue full = Sets.fullSet();
        for (int x = 0; x <= 255; x++) {
            Check.due("gapFrom(" + x + ") when full", full.gapFrom(x), NONE);
        }
    }

    // Promise 14: "NONE when [...] x is not 0 .. 255."

    private static void p14GapFromTooSmall() {
        for (int x : Sets.TOO_SMALL) {
            Check.due("gapFrom(" + x + ") when new", new FlatQueue().gapFrom(x), NONE);
            Check.due("gapFrom(" + x + ") with members", Sets.setOf(0, 10, 255).gapFrom(x), NONE);
        }
    }

    private static void p14GapFromTooLarge() {
        for (int x : Sets.TOO_LARGE) {
            Check.due("gapFrom(" + x + ") when new", new FlatQueue().gapFrom(x), NONE);
            Check.due("gapFrom(" + x + ") with members", Sets.setOf(0, 10, 255).gapFrom(x), NONE);
        }
    }

    // Promise 15: "Takes all members from a to b, both included, out, and answers how many they were."

    private static void p15DeleteBetweenIncludesA() {
        dueLeft(Sets.setOf(9, 10, 11), 10, 15, 2, 9);
        dueLeft(Sets.setOf(0, 10), 0, 5, 1, 10);
    }

    private static void p15DeleteBetweenIncludesB() {
        dueLeft(Sets.setOf(9, 10, 11), 5, 10, 2, 11);
        dueLeft(Sets.setOf(10, 255), 250, 255, 1, 10);
    }

    private static void p15DeleteBetweenANumberAndItself() {
        dueLeft(Sets.setOf(0, 1), 0, 0, 1, 1);
        dueLeft(Sets.setOf(9, 10, 11), 10, 10, 1, 9, 11);
        dueLeft(Sets.setOf(9, 11), 10, 10, 0, 9, 11);
        dueLeft(Sets.setOf(254, 255), 255, 255, 1, 254);
    }

    private static void p15DeleteBetweenWithAGreaterThanB() {
        dueLeft(Sets.setOf(0, 10, 11, 255), 11, 10, 0, 0, 10, 11, 255);
        dueLeft(Sets.setOf(0, 10, 11, 255), 255, 0, 0, 0, 10, 11, 255);
        dueLeft(Sets.setOf(0, 10, 11, 255), MAX, MIN, 0, 0, 10, 11, 255);
    }

    private static void p15DeleteBetweenWithATooSmall() {
        for (int a : Sets.TOO_SMALL) {
            dueLeft(Sets.setOf(0, 10, 11, 255), a, 10, 2, 11, 255);
        }
    }

    private static void p15DeleteBetweenWithBTooLarge() {
        for (int b : Sets.TOO_LARGE) {
            dueLeft(Sets.setOf(0, 10, 11, 255), 11, b, 2, 0, 10);
        }
    }

    private static void p15DeleteBetweenWithBothTooSmall() {
        for (int b : Sets.TOO_SMALL) {
            dueLeft(Sets.setOf(0, 10, 255), MIN, b, 0, 0, 10, 255);
        }
    }

    private static void p15DeleteBetweenWithBothTooLarge() {
        for (int a : Sets.TOO_LARGE) {
            dueLeft(Sets.setOf(0, 10, 255), a, MAX, 0, 0, 10, 255);
        }
    }

    private static void p15DeleteBetweenOverAllIntsDoesNotWrapAround() {
        dueLeft(Sets.setOf(0, 10, 255), MIN, MAX, 3);
    }

    private static void p15DeleteBetweenWithNoMemberBetween() {
        dueLeft(Sets.setOf(10, 20), 11, 19, 0, 10, 20);
    }

    private static void p15DeleteBetweenInTheEmptySet() {
        dueLeft(new FlatQueue(), 0, 255, 0);
        dueLeft(Sets.emptiedSet(), MIN, MAX, 0);
    }

    private static void p15DeleteBetweenInTheFullSet() {
        FlatQueue queue = Sets.fullSet();
        Check.due("deleteBetween(1, 254)", queue.deleteBetween(1, 254), 254);
        Check.due("least() then", queue.least(), 0);
        Check.due("after(0) then", queue.after(0), 255);
        Check.due("size() then", queue.size(), 2);
        Check.due("deleteBetween(0, 255) of all", Sets.fullSet().deleteBetween(0, 255), 256);
    }

    private static void dueLeft(FlatQueue queue, int a, int b, int want, int... left) {
        String call = "deleteBetween(" + a + ", " + b + ")";
        Check.due(call, queue.deleteBetween(a, b), want);
        Sets.dueMembers("after " + call, queue, left);
    }

    // Promise 16: "The member nearest to x"

    private static void p16NearestToAMemberIsThatMember() {
        FlatQueue queue = Sets.setOf(0, 1, 2, 254, 255);
        int[] members = {0, 1, 2, 254, 255};
        for (int x : members) {
            Check.due("nearest(" + x + ")", queue.nearest(x), x);
        }
    }

    private static void p16NearestInTheFullSet() {
        FlatQueue full = Sets.fullSet();
        for (int x = 0; x <= 255; x++) {
            Check.due("nearest(" + x + ") when full", full.nearest(x), x);
        }
    }

    private static void p16NearestWithMembersOnOneSideAlone() {
        Check.due("nearest(0) to 254 and 255", Sets.setOf(254, 255).nearest(0), 254);
        Check.due("nearest(255) to 0 and 1", Sets.setOf(0, 1).nearest(255), 1);
        Check.due("nearest(0) to 255 alone", Sets.setOf(255).nearest(0), 255);
        Check.due("nearest(255) to 0 alone", Sets.setOf(0).nearest(255), 0);
    }

    // Promise 16: "(of two equally near ones the lesser)"

    private static void p16NearestOfTwoEquallyNear() {
        Check.due("nearest(11) to 10 and 12", Sets.setOf(12, 10).nearest(11), 10);
        Check.due("nearest(127) to 0 and 254", Sets.setOf(0, 254).nearest(127), 0);
        Check.due("nearest(128) to 1 and 255", Sets.setOf(255, 1).nearest(128), 1);
    }

    private static void p16NearestNextToEquallyNear() {
        FlatQueue queue = Sets.setOf(10, 20);
        Check.due("nearest(14)", queue.nearest(14), 10);
        Check.due("nearest(15)", queue.nearest(15), 10);
        Check.due("nearest(16)", queue.nearest(16), 20);
        FlatQueue odd = Sets.setOf(0, 255);
        Check.due("nearest(127)", odd.nearest(127), 0);
        Check.due("nearest(128)", odd.nearest(128), 255);
    }

    // Promise 16: "NONE when there is none."

    private static void p16NearestInTheEmptySet() {
        int[] numbers = {MIN, -2, -1, 0, 10, 255, 256, MAX};
        for (int x : numbers) {
            Check.due("nearest(" + x + ") when new", new FlatQueue().nearest(x), NONE);
            Check.due("nearest(" + x + ") when emptied", Sets.emptiedSet().nearest(x), NONE);
        }
    }

    // Promise 16: "x may be any int."

    private static void p16NearestTooSmall() {
        FlatQueue full = Sets.fullSet();
        for (int x : Sets.TOO_SMALL) {
            Check.due("nearest(" + x + ") when full", full.nearest(x), 0);
            Check.due("nearest(" + x + ") to 10 and 255", Sets.setOf(10, 255).nearest(x), 10);
        }
    }

    private static void p16NearestTooLarge() {
        FlatQueue full = Sets.fullSet();
        for (int x : Sets.TOO_LARGE) {
            Check.due("nearest(" + x + ") when full", full.nearest(x), 255);
            Check.due("nearest(" + x + ") to 0 and 10", Sets.setOf(0, 10).nearest(x), 10);
        }
    }

    private static void p16NearestToTheLeastIntDoesNotWrapAround() {
        Check.due("nearest(MIN) to 0 and 255", Sets.setOf(0, 255).nearest(MIN), 0);
        Check.due("nearest(MIN) to 1 and 2", Sets.setOf(1, 2).nearest(MIN), 1);
        Check.due("nearest(MIN) to 255 alone", Sets.setOf(255).nearest(MIN), 255);
    }

    private static void p16NearestToTheGreatestIntDoesNotWrapAround() {
        Check.due("nearest(MAX) to 0 and 255", Sets.setOf(0, 255).nearest(MAX), 255);
        Check.due("nearest(MAX) to 1 and 2", Sets.setOf(1, 2).nearest(MAX), 2);
        Check.due("nearest(MAX) to 0 alone", Sets.setOf(0).nearest(MAX), 0);
    }

    // Promise 17: "A call that is refused [...] changes nothing": "because a number is not as said there"

    private static void p17RefusedForItsNumber() {
        dueUnchangedByWrongNumbers(Sets.TOO_SMALL);
        dueUnchangedByWrongNumbers(Sets.TOO_LARGE);
    }

    private static void dueUnchangedByWrongNumbers(int[] numbers) {
        FlatQueue queue = Sets.setOf(0, 10, 255);
        for (int x : numbers) {
            queue.insert(x);
            queue.delete(x);
            queue.member(x);
            queue.select(x);
            queue.gapFrom(x);
            queue.countBetween(x, x);
            queue.deleteBetween(x, x);
        }
        Sets.dueMembers("after wrong numbers", queue, 0, 10, 255);
    }

    // Promise 17: "something is not there"

    private static void p17RefusedForWhatIsNotThere() {
        FlatQueue queue = Sets.setOf(10, 20);
        queue.delete(11);
        queue.after(20);
        queue.before(10);
        queue.select(2);
        queue.countBetween(11, 19);
        queue.deleteBetween(11, 19);
        Sets.dueMembers("after asking for what is not there", queue, 10, 20);
    }

    private static void p17RefusedInTheEmptySet() {
        FlatQueue queue = new FlatQueue();
        queue.takeLeast();
        queue.takeGreatest();
        queue.delete(0);
        queue.delete(NONE);
        queue.least();
        queue.greatest();
        queue.after(-1);
        queue.before(256);
        queue.select(0);
        queue.nearest(0);
        queue.deleteBetween(0, 255);
        Sets.dueMembers("after refused calls when empty", queue);
        Check.due("insert(0) then", queue.insert(0), true);
        Check.due("takeGreatest() then", queue.takeGreatest(), 0);
    }

    // Promise 17: "a limit is reached"

    private static void p17RefusedInTheFullSet() {
        FlatQueue queue = Sets.fullSet();
        for (int x = 0; x <= 255; x += 5) {
            queue.insert(x);
        }
        queue.insert(-1);
        queue.insert(256);
        queue.gapFrom(0);
        queue.select(256);
        queue.after(255);
        queue.before(0);
        Sets.dueFull("after refused calls when full", queue);
    }
}
