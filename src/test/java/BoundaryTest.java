/**
 * A test of its own for each sentence of ../shared/DOC.md that names a boundary case, and for cases that follow from one;
 * a test is named by the sentence's words, or by the case.
 * No object is used for more than 512 calls, but in the one test of what comes behind them.
 */
public final class BoundaryTest {
    private static final int NONE = PointStore.NONE;
    private static final int OFF = PointStore.OFF;
    private static final int MIN = Integer.MIN_VALUE;
    private static final int MAX = Integer.MAX_VALUE;
    private static final int AHEAD = 0;
    private static final int BEHIND = 1;
    private static final int AGAIN = 2;

    private static String sentence = "";
    private static int wrong = 0;
    private static int tests = 0;
    private static int failed = 0;

    private static void test(String name, Runnable body) {
        sentence = name;
        int before = wrong;
        body.run();
        tests++;
        if (wrong > before) {
            failed++;
        }
    }

    private static void due(String call, long got, long want) {
        if (got != want) {
            wrong++;
            System.out.println("[" + sentence + "] " + call + " answered " + got + ", due is " + want);
        }
    }

    private static void due(String call, boolean got, boolean want) {
        due(call, got ? 1 : 0, want ? 1 : 0);
    }

    /** The RESULTS, three numbers each. */
    private static void dueResults(String when, PointStore s, int... want) {
        due(when + ": size()", s.size(), want.length / 3);
        for (int i = 0; i < want.length; i++) {
            due(when + ": result(" + i / 3 + ", " + i % 3 + ")", s.result(i / 3, i % 3), want[i]);
        }
    }

    /** A STATE's POINTS, three numbers each. */
    private static void duePoints(String when, PointStore s, int state, int... want) {
        due(when + ": window()", s.window(state, MIN, MIN, MAX, MAX), want.length / 3);
        dueResults(when, s, want);
    }

    /** A NODE's six numbers, or no such NODE. */
    private static void dueNode(PointStore s, int state, int k, int... want) {
        for (int what = 0; what < 6; what++) {
            due("node(" + state + ", " + k + ", " + what + ")", s.node(state, k, what), want.length == 0 ? NONE : want[what]);
        }
    }

    private static PointStore plain() {
        return new PointStore(64, 4, 8);
    }

    /** (0, 0) to (n - 1, 0), the VALUE being x + 1, all COMMITTED. */
    private static PointStore row(int n) {
        PointStore s = new PointStore(400, 8, 10);
        for (int x = 0; x < n; x++) {
            s.insert(x, 0, x + 1);
            if (x % 60 == 59) {
                s.commit();
            }
        }
        s.commit();
        return s;
    }

    /** 60 CHANGES behind a COMMITTED (1, 1): (2, 2) with VALUE 60. */
    private static PointStore full() {
        PointStore s = plain();
        s.insert(1, 1, 1);
        s.commit();
        for (int i = 1; i <= 60; i++) {
            s.insert(2, 2, i);
        }
        return s;
    }

    /** COMMITTED (1, 1), (2, 2), and CHANGES that replace, delete, bring. */
    private static PointStore changed() {
        PointStore s = plain();
        s.insert(1, 1, 10);
        s.insert(2, 2, 20);
        s.commit();
        s.insert(1, 1, 11);
        s.delete(2, 2);
        s.insert(3, 3, 30);
        return s;
    }

    private static void dueAsAheadOfChanges(String when, PointStore s) {
        duePoints(when, s, 1, 1, 1, 10, 2, 2, 20);
        duePoints(when, s, 0, 1, 1, 10, 2, 2, 20);
    }

    private static void dueAsBehindChanges(String when, PointStore s) {
        duePoints(when, s, 1, 1, 1, 11, 3, 3, 30);
        duePoints(when, s, 0, 1, 1, 11, 3, 3, 30);
    }

    /** The power is gone, behind BEHIND: changed() is to be made out of the LOG. */
    private static PointStore without() {
        PointStore s = changed();
        s.arm(BEHIND, 100);
        s.commit();
        return s;
    }

    // What it is, and the terms of part 1

    private static void lifeOf512Calls() {
        PointStore s = new PointStore(400, 8, 15);
        for (int i = 0; i < 503; i++) {
            due("insert " + i, s.insert(i % 32 * 1000, i / 32 * 2000, i), 0);
            if (i % 60 == 59) {
                due("commit()", s.commit(), 60);
            }
        }
        due("the 512th call", s.window(0, 0, 0, MAX, MAX), 503);
    }

    private static void callsBehindThe512th() {
        PointStore s = new PointStore(400, 8, 15);
        for (int i = 0; i < 3000; i++) {
            s.insert(i % 64 * 500, i / 64 * 600, i);
            if (i % 60 == 59) {
                s.arm(i % 3, 256);
                s.commit();
                s.recover();
                s.recover();
                s.nearest(0, 0, 0, 150);
                s.differs();
                s.node(1, 399, 5);
            }
        }
    }

    private static void planeEndsBelowSpan() {
        for (int bits = 1; bits <= 15; bits++) {
            int span = 1 << bits;
            PointStore s = new PointStore(64, 4, bits);
            int[][] inside = {{0, 0}, {span - 1, 0}, {0, span - 1}, {span - 1, span - 1}};
            int[][] outside = {{span, 0}, {0, span}, {span, span}, {-1, 0}, {0, -1}, {MAX, 0}, {0, MAX}, {MIN, 0}, {0, MIN}};
            for (int[] p : inside) {
                due("insert() with BITS " + bits, s.insert(p[0], p[1], 7), 0);
            }
            for (int[] p : outside) {
                due("insert() with BITS " + bits, s.insert(p[0], p[1], 7), 2);
                due("delete() with BITS " + bits, s.delete(p[0], p[1]), 2);
                due("get() with BITS " + bits, s.get(0, p[0], p[1]), NONE);
            }
            for (int[] p : inside) {
                due("get() with BITS " + bits, s.get(0, p[0], p[1]), 7);
                due("delete() with BITS " + bits, s.delete(p[0], p[1]), 0);
            }
            due("CHANGES with BITS " + bits, s.count(5), 8);
        }
    }

    private static void valueIsNotBelow0() {
        PointStore s = plain();
        due("VALUE 0", s.insert(1, 1, 0), 0);
        due("the greatest VALUE", s.insert(2, 2, MAX), 0);
        due("VALUE -1", s.insert(3, 3, -1), 2);
        due("the least number", s.insert(3, 3, MIN), 2);
        due("VALUE -1 where one is", s.insert(2, 2, -1), 2);
        duePoints("behind them", s, 0, 1, 1, 0, 2, 2, MAX);
    }

    private static void noTwoAtOnePlace() {
        PointStore s = plain();
        s.insert(5, 5, 1);
        s.insert(5, 5, 2);
        duePoints("PENDING", s, 0, 5, 5, 2);
        s.commit();
        s.insert(5, 5, 3);
        s.commit();
        duePoints("COMMITTED", s, 1, 5, 5, 3);
        due("count(1)", s.count(1), 1);
    }

    private static void orderIsByXThenY() {
        PointStore s = new PointStore(64, 4, 15);
        s.insert(32767, 0, 1);
        s.insert(0, 32767, 2);
        s.insert(32767, 32767, 3);
        s.insert(0, 0, 4);
        s.insert(1, 0, 5);
        duePoints("the corners", s, 0, 0, 0, 4, 0, 32767, 2, 1, 0, 5, 32767, 0, 1, 32767, 32767, 3);
    }

    private static void whatChangedNothingIsNoChange() {
        PointStore s = new PointStore(1, 1, 8);
        s.insert(1, 1, 1);
        s.insert(256, 1, 1);
        s.insert(1, 1, -1);
        s.insert(2, 2, 2);
        s.delete(2, 2);
        s.delete(-1, 2);
        due("count(5)", s.count(5), 1);
        due("commit()", s.commit(), 1);
    }

    private static void changesEndWithEachOfFour() {
        for (int i = 0; i < 4; i++) {
            PointStore s = changed();
            due("CHANGES ahead of it", s.count(5), 3);
            int answer = i == 0 ? s.commit() : i == 1 ? s.abort() : i == 2 ? s.format() : s.recover();
            due("its answer", answer, i < 2 ? 3 : 0);
            due("CHANGES behind it", s.count(5), 0);
            due("the next commit()", s.commit(), 0);
            due("the next abort()", s.abort(), 0);
            due("insert() behind it", s.insert(9, 9, 9), 0);
            due("CHANGES begin anew", s.count(5), 1);
        }
    }

    private static void rootIsThereWithoutPoints() {
        PointStore s = plain();
        for (int state = 0; state < 2; state++) {
            dueNode(s, state, 0, 256, 0, 0, 0, 0, 0);
            dueNode(s, state, 1);
            due("NODES", s.count(2 + state), 1);
        }
        s.insert(200, 200, 2);
        s.delete(200, 200);
        dueNode(s, 0, 0, 256, 0, 0, 0, 0, 0);
        due("NODES behind delete()", s.count(2), 1);
    }

    private static void bucketPointsAreALeaf() {
        for (int bucket = 1; bucket <= 8; bucket++) {
            PointStore s = new PointStore(64, bucket, 4);
            for (int i = 0; i < bucket; i++) {
                s.insert(15 * (i & 1), i, 1);
            }
            due("NODES with BUCKET " + bucket, s.count(2), 1);
            dueNode(s, 0, 0, 16, 0, 0, bucket, 0, bucket);
            s.insert(15, 15, 1);
            due("children with one more, BUCKET " + bucket, s.node(0, 0, 4), bucket == 1 ? 1 + 8 : 1 + 2 + 8);
            due("NODES with one more, BUCKET " + bucket, s.count(2), bucket == 1 ? 3 : 4);
            s.delete(15, 15);
            dueNode(s, 0, 0, 16, 0, 0, bucket, 0, bucket);
        }
    }

    private static void quartersWithoutPointsAreNone() {
        int[][] corner = {{0, 0}, {128, 0}, {0, 128}, {128, 128}};
        for (int left = 0; left < 4; left++) {
            PointStore s = new PointStore(64, 1, 8);
            for (int i = 0; i < 4; i++) {
                if (i != left) {
                    s.insert(corner[i][0], corner[i][1], i);
                }
            }
            due("children but " + left, s.node(0, 0, 4), 15 - (1 << left));
            due("NODES but " + left, s.count(2), 4);
        }
        for (int only = 0; only < 4; only++) {
            PointStore s = new PointStore(64, 1, 8);
            int x = corner[only][0];
            int y = corner[only][1];
            s.insert(x, y, 1);
            s.insert(x + 127, y + 127, 1);
            due("children, " + only + " alone", s.node(0, 0, 4), 1 << only);
            dueNode(s, 0, 1, 128, x, y, 2, 1 + 8, 2);
        }
    }

    private static void childrenAreInTheirOrder() {
        PointStore s = new PointStore(64, 1, 8);
        s.insert(255, 255, 8);
        s.insert(0, 255, 4);
        s.insert(255, 0, 2);
        s.insert(0, 0, 1);
        dueNode(s, 0, 0, 256, 0, 0, 4, 15, 15);
        dueNode(s, 0, 1, 128, 0, 0, 1, 0, 1);
        dueNode(s, 0, 2, 128, 128, 0, 1, 0, 2);
        dueNode(s, 0, 3, 128, 0, 128, 1, 0, 4);
        dueNode(s, 0, 4, 128, 128, 128, 1, 0, 8);
        dueNode(s, 0, 5);
    }

    private static void eachChildWithAllBelowIt() {
        PointStore s = new PointStore(64, 1, 3);
        s.insert(0, 0, 1);
        s.insert(3, 3, 2);
        s.insert(2, 2, 4);
        s.insert(7, 0, 8);
        dueNode(s, 0, 0, 8, 0, 0, 4, 1 + 2, 15);
        dueNode(s, 0, 1, 4, 0, 0, 3, 1 + 8, 7);
        dueNode(s, 0, 2, 2, 0, 0, 1, 0, 1);
        dueNode(s, 0, 3, 2, 2, 2, 2, 1 + 8, 6);
        dueNode(s, 0, 4, 1, 2, 2, 1, 0, 4);
        dueNode(s, 0, 5, 1, 3, 3, 1, 0, 2);
        dueNode(s, 0, 6, 4, 4, 0, 1, 0, 8);
        dueNode(s, 0, 7);
    }

    private static void aRegionOfSide1IsTheSmallest() {
        PointStore least = new PointStore(5, 1, 1);
        for (int i = 0; i < 4; i++) {
            due("insert()", least.insert(i & 1, i >> 1, 1), 0);
        }
        due("the side", least.node(0, 4, 0), 1);
        due("the depth", least.count(6), 1);
        due("the METER", least.count(4), 0);
        PointStore deepest = new PointStore(400, 1, 15);
        deepest.insert(32767, 32767, 1);
        deepest.insert(32766, 32767, 1);
        due("NODES, one of each side and a second of side 1", deepest.count(2), 17);
        due("the depth", deepest.count(6), 15);
        dueNode(deepest, 0, 15, 1, 32766, 32767, 1, 0, 1);
        dueNode(deepest, 0, 16, 1, 32767, 32767, 1, 0, 1);
    }

    private static void treeHangsOnTheStateAlone() {
        PointStore one = new PointStore(64, 1, 6);
        PointStore other = new PointStore(64, 1, 6);
        for (int i = 0; i < 12; i++) {
            one.insert(i * 5, i * 3, i);
            other.insert(55 - i * 5, 33 - i * 3, 11 - i);
            other.insert(i, 63, 1);
        }
        for (int i = 0; i < 12; i++) {
            other.delete(i, 63);
        }
        due("NODES", other.count(2), one.count(2));
        for (int k = 0; k < one.count(2); k++) {
            for (int what = 0; what < 6; what++) {
                due("node(0, " + k + ", " + what + ")", other.node(0, k, what), one.node(0, k, what));
            }
        }
    }

    /** As many steps back as there were onward must not bring an earlier STATE's TREE back. */
    private static void treeIsOfTheStateAsItIsNow() {
        for (int i = 0; i < 3; i++) {
            for (int more = 0; more < 4; more++) {
                PointStore s = new PointStore(64, 1, 4);
                s.insert(0, 0, 1);
                s.commit();
                s.insert(15, 15, 2);
                due("NODES ahead of it", s.count(2), 3);
                for (int n = 0; n < more; n++) {
                    s.insert(15, 15, 3 + n);
                }
                due("its answer", i == 0 ? s.abort() : i == 1 ? s.format() : s.recover(), i == 0 ? 1 + more : 0);
                due("NODES behind it", s.count(2), 1);
                dueNode(s, 0, 0, 16, 0, 0, i == 1 ? 0 : 1, 0, i == 1 ? 0 : 1);
                dueNode(s, 1, 0, 16, 0, 0, i == 1 ? 0 : 1, 0, i == 1 ? 0 : 1);
            }
        }
    }

    private static void meterGoesDownTo0() {
        PointStore s = new PointStore(6, 1, 4);
        due("a new object", s.count(4), 5);
        s.insert(0, 0, 1);
        due("one POINT", s.count(4), 5);
        due("a POINT that takes all BLOCKS", s.insert(1, 1, 1), 0);
        due("no BLOCK left", s.count(4), 0);
        due("COMMITTED has its own", s.count(3), 1);
        due("one NODE more", s.insert(1, 0, 1), 4);
        due("still", s.count(4), 0);
    }

    // POWER

    private static void aheadIsAsAheadOfTheCall() {
        for (int n = 0; n <= 256; n++) {
            PointStore s = changed();
            s.arm(AHEAD, n);
            due("commit() " + n, s.commit(), OFF);
            due("recover() " + n, s.recover(), 0);
            dueAsAheadOfChanges("AHEAD " + n, s);
        }
    }

    private static void behindIsAsBehindTheCall() {
        for (int n = 0; n <= 256; n++) {
            PointStore s = changed();
            s.arm(BEHIND, n);
            due("commit() " + n, s.commit(), OFF);
            due("recover() " + n, s.recover(), 0);
            dueAsBehindChanges("BEHIND " + n, s);
        }
    }

    private static void formatIsCutLikewise() {
        for (int n = 0; n <= 256; n++) {
            PointStore ahead = changed();
            ahead.arm(AHEAD, n);
            due("format() AHEAD " + n, ahead.format(), OFF);
            due("recover()", ahead.recover(), 0);
            dueAsAheadOfChanges("format() AHEAD " + n, ahead);
            PointStore behind = changed();
            behind.arm(BEHIND, n);
            due("format() BEHIND " + n, behind.format(), OFF);
            due("recover()", behind.recover(), 0);
            duePoints("format() BEHIND " + n, behind, 1);
            duePoints("format() BEHIND " + n, behind, 0);
        }
    }

    private static void theMostChangesAreCutLikewise() {
        for (int n = 0; n <= 256; n++) {
            for (int what = AHEAD; what <= BEHIND; what++) {
                PointStore s = full();
                s.arm(what, n);
                due("commit() " + what + " " + n, s.commit(), OFF);
                s.recover();
                due("(2, 2) " + what + " " + n, s.get(1, 2, 2), what == AHEAD ? NONE : 60);
                due("(1, 1) " + what + " " + n, s.get(1, 1, 1), 1);
            }
        }
    }

    private static void againChangesNothingOfThat() {
        for (int n = 0; n <= 256; n++) {
            for (int what = AHEAD; what <= BEHIND; what++) {
                PointStore s = changed();
                s.arm(what, 256 - n);
                s.commit();
                for (int again : new int[] {n, 0, 256 - n, 256, n}) {
                    s.arm(AGAIN, again);
                    due("recover() again " + again, s.recover(), OFF);
                }
                due("recover()", s.recover(), 0);
                if (what == AHEAD) {
                    dueAsAheadOfChanges("AGAIN " + n, s);
                } else {
                    dueAsBehindChanges("AGAIN " + n, s);
                }
            }
        }
    }

    private static void againGoesWithNothingToBeWritten() {
        for (int n : new int[] {0, 1, 128, 255, 256}) {
            PointStore on = changed();
            on.arm(AGAIN, n);
            due("recover() with the power on", on.recover(), OFF);
            due("the power is gone", on.count(0), OFF);
            due("recover()", on.recover(), 0);
            dueAsAheadOfChanges("the power on, " + n, on);
            PointStore fresh = plain();
            fresh.arm(AGAIN, n);
            due("recover() of a new object", fresh.recover(), OFF);
            due("recover()", fresh.recover(), 0);
            duePoints("a new object, " + n, fresh, 1);
            PointStore ahead = changed();
            ahead.arm(AHEAD, 256);
            ahead.commit();
            ahead.arm(AGAIN, n);
            due("recover() behind AHEAD", ahead.recover(), OFF);
            due("recover()", ahead.recover(), 0);
            dueAsAheadOfChanges("AHEAD, " + n, ahead);
        }
    }

    private static void whatIsNotOnTheDiskIsLost() {
        PointStore s = changed();
        s.commit();
        s.insert(4, 4, 40);
        s.window(0, 0, 0, 255, 255);
        s.arm(AGAIN, 0);
        s.recover();
        dueResults("RESULTS", s);
        due("recover()", s.recover(), 0);
        due("CHANGES", s.count(5), 0);
        due("differs()", s.differs(), 0);
        dueAsBehindChanges("POINTS", s);
    }

    private static void aSealedLogIsDoneOnce() {
        PointStore s = without();
        s.recover();
        s.delete(1, 1);
        s.insert(3, 3, 31);
        due("commit()", s.commit(), 2);
        due("recover()", s.recover(), 0);
        duePoints("not written over by the old LOG", s, 1, 3, 3, 31);
        s.insert(6, 6, 60);
        s.arm(AHEAD, 256);
        s.commit();
        due("recover()", s.recover(), 0);
        duePoints("a LOG without a SEAL", s, 1, 3, 3, 31);
    }

    private static void anotherCutComesInItsPlace() {
        PointStore s = changed();
        s.arm(AHEAD, 0);
        s.arm(AGAIN, 1);
        due("the latter alone", s.count(7), AGAIN);
        due("commit()", s.commit(), 3);
        s.arm(BEHIND, 0);
        due("recover()", s.recover(), 0);
        due("format()", s.format(), OFF);
        s.recover();
        duePoints("BEHIND", s, 1);
    }

    private static void aCallThatItIsNotForLeavesItArmed() {
        for (int what = AHEAD; what <= AGAIN; what++) {
            PointStore s = changed();
            s.arm(what, 77);
            s.insert(5, 5, 5);
            s.delete(5, 5);
            s.get(0, 1, 1);
            s.window(0, 0, 0, 9, 9);
            s.nearest(0, 0, 0, 1);
            s.differs();
            s.result(0, 0);
            s.size();
            s.sum(0, 0, 0, 9, 9);
            s.node(0, 0, 0);
            due("abort()", s.abort(), 5);
            due("commit() without CHANGES", s.commit(), 0);
            due("armed", s.count(7), what);
        }
        for (int what = AHEAD; what <= BEHIND; what++) {
            PointStore s = changed();
            s.arm(what, 77);
            due("recover()", s.recover(), 0);
            due("armed behind recover()", s.count(7), what);
        }
        PointStore s = changed();
        s.arm(AGAIN, 77);
        due("commit()", s.commit(), 3);
        due("format()", s.format(), 0);
        due("armed behind commit(), format()", s.count(7), AGAIN);
    }

    private static void whenThePowerGoesItIsNone() {
        for (int what = AHEAD; what <= AGAIN; what++) {
            PointStore s = changed();
            s.arm(what, 3);
            due("the power goes", what == AGAIN ? s.recover() : s.commit(), OFF);
            due("recover()", s.recover(), 0);
            due("count(7)", s.count(7), NONE);
            s.insert(8, 8, 8);
            due("commit()", s.commit(), 1);
            due("format()", s.format(), 0);
            due("recover()", s.recover(), 0);
        }
    }

    private static void changesThatCancelAreWrittenToo() {
        PointStore s = plain();
        s.insert(1, 1, 1);
        s.delete(1, 1);
        s.arm(BEHIND, 256);
        due("commit()", s.commit(), OFF);
        s.recover();
        duePoints("behind it", s, 1);
        s.insert(1, 1, 1);
        s.commit();
        s.insert(1, 1, 1);
        s.arm(AHEAD, 0);
        due("commit() of the same VALUE", s.commit(), OFF);
        s.recover();
        duePoints("behind it", s, 1, 1, 1, 1);
    }

    private static void withoutPowerCallsAnswerOffAndDoNothing() {
        PointStore s = without();
        due("insert()", s.insert(9, 9, 9), OFF);
        due("insert() outside", s.insert(-1, 256, -1), OFF);
        due("delete()", s.delete(1, 1), OFF);
        due("delete() outside", s.delete(-1, 1), OFF);
        due("delete() where none is", s.delete(77, 77), OFF);
        due("get()", s.get(1, 1, 1), OFF);
        due("get() of another state", s.get(2, 1, 1), OFF);
        due("window()", s.window(1, 0, 0, 9, 9), OFF);
        due("window() of another state", s.window(2, 0, 0, 9, 9), OFF);
        due("nearest()", s.nearest(1, 0, 0, 5), OFF);
        due("nearest() with k 0", s.nearest(1, 0, 0, 0), OFF);
        due("differs()", s.differs(), OFF);
        due("sum()", s.sum(1, 0, 0, 9, 9), OFF);
        due("sum() of another state", s.sum(2, 0, 0, 9, 9), OFF);
        due("commit()", s.commit(), OFF);
        due("abort()", s.abort(), OFF);
        due("format()", s.format(), OFF);
        due("node()", s.node(0, 0, 0), OFF);
        due("node() of none", s.node(2, -1, 6), OFF);
        for (int what = -1; what <= 11; what++) {
            due("count(" + what + ")", s.count(what), OFF);
        }
        due("size()", s.size(), 0);
        due("recover()", s.recover(), 0);
        dueAsBehindChanges("nothing was done", s);
        due("CHANGES", s.count(5), 0);
    }

    private static void withoutPowerFourCallsAnswer() {
        PointStore s = without();
        due("size()", s.size(), 0);
        due("result()", s.result(0, 0), NONE);
        due("arm() AGAIN", s.arm(AGAIN, 0), true);
        due("arm() with another what", s.arm(4, 0), false);
        due("arm() with another n", s.arm(AHEAD, 257), false);
        due("recover()", s.recover(), OFF);
        due("arm()", s.arm(AGAIN, 0), true);
        due("arm() none", s.arm(3, -9), true);
        due("recover()", s.recover(), 0);
        PointStore other = without();
        due("arm() AHEAD", other.arm(AHEAD, 9), true);
        due("commit() without power leaves it", other.commit(), OFF);
        due("format() without power leaves it", other.format(), OFF);
        due("recover()", other.recover(), 0);
        due("armed", other.count(7), AHEAD);
    }

    private static void theConstants() {
        due("NONE", PointStore.NONE, -1);
        due("OFF", PointStore.OFF, -2);
    }

    // Promise 1

    private static void blocksAre1To400() {
        int[][] cases = {{1, 1}, {2, 2}, {399, 399}, {400, 400}, {0, 64}, {401, 64}, {-1, 64}, {MIN, 64}, {MAX, 64}};
        for (int[] c : cases) {
            PointStore s = new PointStore(c[0], 5, 9);
            due("BLOCKS of " + c[0], s.count(8), c[1]);
            due("THE METER of " + c[0], s.count(4), c[1] - 1);
            due("BUCKET beside it", s.count(9), 5);
            due("SPAN beside it", s.count(10), 512);
        }
    }

    private static void bucketIs1To8() {
        int[][] cases = {{1, 1}, {2, 2}, {7, 7}, {8, 8}, {0, 4}, {9, 4}, {-1, 4}, {MIN, 4}, {MAX, 4}};
        for (int[] c : cases) {
            PointStore s = new PointStore(70, c[0], 9);
            due("BUCKET of " + c[0], s.count(9), c[1]);
            due("BLOCKS beside it", s.count(8), 70);
            due("SPAN beside it", s.count(10), 512);
            for (int i = 0; i < c[1]; i++) {
                s.insert(511 * (i & 1), i, 1);
            }
            due("a LEAF of " + c[1], s.count(2), 1);
            s.insert(511, 511, 1);
            due("more than " + c[1], s.count(2) > 1, true);
        }
    }

    private static void bitsAre1To15() {
        int[][] cases = {{1, 2}, {2, 4}, {14, 16384}, {15, 32768}, {0, 256}, {16, 256}, {-1, 256}, {31, 256}, {32, 256},
            {33, 256}, {MIN, 256}, {MAX, 256}};
        for (int[] c : cases) {
            PointStore s = new PointStore(70, 5, c[0]);
            due("SPAN of " + c[0], s.count(10), c[1]);
            due("the ROOT's side of " + c[0], s.node(0, 0, 0), c[1]);
            due("BLOCKS beside it", s.count(8), 70);
            due("BUCKET beside it", s.count(9), 5);
        }
    }

    private static void noPointsAtFirst() {
        PointStore s = plain();
        due("PENDING", s.count(0), 0);
        due("COMMITTED", s.count(1), 0);
        due("CHANGES", s.count(5), 0);
        due("the CUT", s.count(7), NONE);
        due("the depth", s.count(6), 0);
        for (int state = 0; state < 2; state++) {
            due("get()", s.get(state, 0, 0), NONE);
            due("window()", s.window(state, 0, 0, 255, 255), 0);
            due("nearest()", s.nearest(state, 0, 0, 150), 0);
            due("sum()", s.sum(state, 0, 0, 255, 255), 0);
        }
        due("differs()", s.differs(), 0);
        due("delete()", s.delete(0, 0), 5);
        due("commit()", s.commit(), 0);
        due("abort()", s.abort(), 0);
        due("recover()", s.recover(), 0);
    }

    // Promise 2

    private static void insertIntoThePendingStateAlone() {
        PointStore s = plain();
        due("insert()", s.insert(6, 7, 8), 0);
        due("PENDING", s.get(0, 6, 7), 8);
        due("COMMITTED", s.get(1, 6, 7), NONE);
        due("POINTS", s.count(0), 1);
        due("POINTS", s.count(1), 0);
    }

    private static void insertWhereOneWas() {
        PointStore s = plain();
        s.insert(6, 7, 8);
        due("another VALUE", s.insert(6, 7, 0), 1);
        due("it has the VALUE now", s.get(0, 6, 7), 0);
        due("POINTS", s.count(0), 1);
        s.delete(6, 7);
        due("none was there any more", s.insert(6, 7, 9), 0);
        s.commit();
        s.delete(6, 7);
        due("one is in the COMMITTED STATE alone", s.insert(6, 7, 9), 0);
    }

    private static void insertOfTheSameIsAChange() {
        PointStore s = plain();
        s.insert(6, 7, 8);
        s.commit();
        due("insert()", s.insert(6, 7, 8), 1);
        due("CHANGES", s.count(5), 1);
        due("differs()", s.differs(), 0);
        due("commit()", s.commit(), 1);
        for (int i = 0; i < 60; i++) {
            due("insert()", s.insert(6, 7, 8), 1);
        }
        due("CHANGES", s.count(5), 60);
        due("insert()", s.insert(6, 7, 8), 3);
    }

    private static void insertAt60Changes() {
        PointStore s = plain();
        for (int i = 0; i < 59; i++) {
            s.insert(i, 0, i);
        }
        due("59 CHANGES", s.count(5), 59);
        due("the 60th", s.insert(59, 0, 59), 0);
        due("a 61st, new", s.insert(60, 0, 60), 3);
        due("a 61st, where one is", s.insert(0, 0, 99), 3);
        due("60 CHANGES", s.count(5), 60);
        due("nothing is done", s.get(0, 60, 0), NONE);
        due("nothing is done", s.get(0, 0, 0), 0);
        due("nothing is done", s.count(0), 60);
    }

    private static void changesGoOnBehindEachOfFour() {
        for (int i = 0; i < 4; i++) {
            PointStore s = full();
            due("insert() ahead of it", s.insert(3, 3, 3), 3);
            due("its answer", i == 0 ? s.commit() : i == 1 ? s.abort() : i == 2 ? s.format() : s.recover(), i < 2 ? 60 : 0);
            due("insert() behind it", s.insert(3, 3, 3), 0);
            due("get()", s.get(0, 3, 3), 3);
        }
    }

    private static int[] zOrder(int i) {
        int x = 0;
        int y = 0;
        for (int bit = 0; bit < 5; bit++) {
            x |= (i >> (2 * bit) & 1) << bit;
            y |= (i >> (2 * bit + 1) & 1) << bit;
        }
        return new int[] {x, y};
    }

    /**
     * 298 COMMITTED POINTS in the order of quarters: 1 + 341 NODES with the first 256,
     * 2 + 21 + 21 + 1 + 5 + 5 + 3 more with the others.
     */
    private static PointStore ofAllBlocks() {
        PointStore s = new PointStore(400, 1, 5);
        for (int i = 0; i < 298; i++) {
            int[] at = zOrder(i);
            due("insert " + i, s.insert(at[0], at[1], i), 0);
            if (i % 60 == 59) {
                s.commit();
            }
        }
        s.commit();
        return s;
    }

    private static void insertWithoutABlock() {
        PointStore s = ofAllBlocks();
        due("NODES", s.count(2), 400);
        due("THE METER", s.count(4), 0);
        int[] next = zOrder(298);
        due("a 401st", s.insert(next[0], next[1], 1), 4);
        due("far more than 400", s.insert(31, 31, 1), 4);
        due("nothing is done", s.get(0, next[0], next[1]), NONE);
        due("nothing is done", s.count(0), 298);
        due("nothing is done", s.count(2), 400);
        due("nothing is done", s.count(5), 0);
        due("the last NODE", s.node(0, 399, 3), 1);
        due("no more NODES", s.node(0, 400, 0), NONE);
        due("one that is there takes no BLOCK", s.insert(0, 0, 5), 1);
        int[] last = zOrder(297);
        due("delete()", s.delete(last[0], last[1]), 0);
        due("its REGION and its brother's are free", s.count(4), 2);
        due("two NODES more", s.insert(next[0], next[1], 1), 0);
        due("THE METER", s.count(4), 0);
        due("commit()", s.commit(), 3);
        due("COMMITTED NODES", s.count(3), 400);
    }

    private static void insertWithOneBlock() {
        PointStore s = new PointStore(1, 8, 15);
        for (int i = 0; i < 8; i++) {
            due("insert()", s.insert(i, i, i), 0);
        }
        due("a ninth", s.insert(8, 8, 8), 4);
        s.delete(0, 0);
        due("in the place of another", s.insert(8, 8, 8), 0);
    }

    private static void insertAnswers2AheadOf3AheadOf4() {
        PointStore s = new PointStore(1, 1, 8);
        s.insert(1, 1, 1);
        due("4 alone", s.insert(2, 2, 2), 4);
        due("2 ahead of 4", s.insert(256, 2, 2), 2);
        due("2 ahead of 4", s.insert(2, 2, -2), 2);
        for (int i = 1; i < 60; i++) {
            s.insert(1, 1, i);
        }
        due("3 ahead of 4", s.insert(2, 2, 2), 3);
        due("2 ahead of 3", s.insert(2, 256, 2), 2);
        due("2 ahead of 3", s.insert(1, 1, MIN), 2);
        duePoints("nothing is done", s, 0, 1, 1, 59);
        due("CHANGES", s.count(5), 60);
    }

    // Promise 3

    private static void deleteLeavesTheCommittedState() {
        PointStore s = row(3);
        due("delete()", s.delete(1, 0), 0);
        duePoints("PENDING", s, 0, 0, 0, 1, 2, 0, 3);
        duePoints("COMMITTED", s, 1, 0, 0, 1, 1, 0, 2, 2, 0, 3);
        due("CHANGES", s.count(5), 1);
        due("the first one", s.delete(0, 0), 0);
        due("the last one", s.delete(2, 0), 0);
        due("none is left", s.count(0), 0);
        due("commit()", s.commit(), 3);
        duePoints("COMMITTED", s, 1);
    }

    private static void deleteWhereNoneIs() {
        PointStore s = row(3);
        due("beside them", s.delete(1, 1), 5);
        due("beside the first one", s.delete(0, 1), 5);
        s.delete(1, 0);
        due("it has left", s.delete(1, 0), 5);
        due("CHANGES", s.count(5), 1);
        due("without POINTS", plain().delete(0, 0), 5);
    }

    private static void deleteAt60Changes() {
        PointStore s = plain();
        for (int i = 0; i < 30; i++) {
            s.insert(i, 0, i);
        }
        s.insert(99, 0, 1);
        for (int i = 1; i < 30; i++) {
            due("delete()", s.delete(i, 0), 0);
        }
        due("CHANGES", s.count(5), 60);
        due("a 61st", s.delete(0, 0), 3);
        due("nothing is done", s.get(0, 0, 0), 0);
        due("nothing is done", s.count(0), 2);
        due("commit()", s.commit(), 60);
        due("behind it", s.delete(0, 0), 0);
    }

    private static void deleteAnswers2AheadOf5AheadOf3() {
        PointStore s = full();
        due("3", s.delete(2, 2), 3);
        due("3 for a COMMITTED one", s.delete(1, 1), 3);
        due("5 ahead of 3", s.delete(3, 3), 5);
        due("2 ahead of 3", s.delete(256, 2), 2);
        due("2 ahead of 5", plain().delete(-1, 256), 2);
        duePoints("nothing is done", s, 0, 1, 1, 1, 2, 2, 60);
    }

    // Promise 4

    private static void getOfAnotherState() {
        PointStore s = changed();
        for (int state : new int[] {-1, 2, 3, 256, MIN, MAX}) {
            due("get() of " + state, s.get(state, 1, 1), NONE);
        }
        due("PENDING", s.get(0, 1, 1), 11);
        due("COMMITTED", s.get(1, 1, 1), 10);
    }

    private static void getWhereNoneIs() {
        PointStore s = changed();
        due("deleted", s.get(0, 2, 2), NONE);
        due("not COMMITTED", s.get(1, 3, 3), NONE);
        due("never there", s.get(0, 9, 9), NONE);
        due("VALUE 0 is not none", s.insert(9, 9, 0), 0);
        due("VALUE 0", s.get(0, 9, 9), 0);
    }

    private static void getOutside() {
        PointStore s = new PointStore(64, 4, 15);
        s.insert(1, 0, 5);
        s.insert(0, 32767, 6);
        s.insert(0, 0, 7);
        int[][] outside = {{0, 32768}, {1, -1}, {-1, 32767}, {-1, 65535}, {131073, 0}, {131072, 0}, {MIN, 0}, {MAX, MAX}, {0, MIN}};
        for (int[] p : outside) {
            due("get(0, " + p[0] + ", " + p[1] + ")", s.get(0, p[0], p[1]), NONE);
        }
    }

    // Promise 5

    private static void windowHasItsEdges() {
        PointStore s = plain();
        s.insert(10, 10, 1);
        s.insert(10, 20, 2);
        s.insert(20, 10, 3);
        s.insert(20, 20, 4);
        due("all four", s.window(0, 10, 10, 20, 20), 4);
        due("without the lowest x", s.window(0, 11, 10, 20, 20), 2);
        dueResults("x0", s, 20, 10, 3, 20, 20, 4);
        due("without the highest x", s.window(0, 10, 10, 19, 20), 2);
        dueResults("x1", s, 10, 10, 1, 10, 20, 2);
        due("without the lowest y", s.window(0, 10, 11, 20, 20), 2);
        dueResults("y0", s, 10, 20, 2, 20, 20, 4);
        due("without the highest y", s.window(0, 10, 10, 20, 19), 2);
        dueResults("y1", s, 10, 10, 1, 20, 10, 3);
        due("one place", s.window(0, 20, 10, 20, 10), 1);
        dueResults("one place", s, 20, 10, 3);
    }

    private static void windowBeyondThePlane() {
        PointStore s = changed();
        due("the greatest window", s.window(0, MIN, MIN, MAX, MAX), 2);
        dueResults("the greatest window", s, 1, 1, 11, 3, 3, 30);
        due("outside", s.window(0, 256, 256, MAX, MAX), 0);
        dueResults("outside", s);
        due("below", s.window(0, MIN, MIN, -1, -1), 0);
        due("half outside", s.window(0, -5, -5, 1, 1), 1);
    }

    private static void windowTheWrongWayAround() {
        PointStore s = changed();
        s.window(0, 0, 0, 9, 9);
        due("x", s.window(0, 3, 0, 1, 9), 0);
        dueResults("they are the RESULTS", s);
        due("y", s.window(0, 0, 3, 9, 1), 0);
        due("both", s.window(0, MAX, MAX, MIN, MIN), 0);
    }

    private static void windowOfMoreThan150() {
        PointStore s = row(151);
        due("149", s.window(1, 0, 0, 148, 0), 149);
        due("149 RESULTS", s.size(), 149);
        due("150", s.window(1, 0, 0, 149, 0), 150);
        due("150 RESULTS", s.size(), 150);
        due("the last one", s.result(149, 2), 150);
        due("151", s.window(1, 0, 0, 150, 0), 151);
        due("150 RESULTS", s.size(), 150);
        due("the first one", s.result(0, 2), 1);
        due("the last one", s.result(149, 2), 150);
        due("no 151st", s.result(150, 2), NONE);
        due("of the PENDING one", s.window(0, 1, 0, 150, 0), 150);
        due("the last one", s.result(149, 2), 151);
    }

    private static void windowOfAnotherState() {
        PointStore s = changed();
        s.window(1, 2, 2, 2, 2);
        for (int state : new int[] {-1, 2, MIN, MAX}) {
            due("window() of " + state, s.window(state, 0, 0, 9, 9), NONE);
            dueResults("RESULTS stay", s, 2, 2, 20);
        }
    }

    // Promise 6

    private static void nearestOf1To150() {
        PointStore s = row(151);
        s.nearest(0, 7, 0, 1);
        for (int k : new int[] {0, -1, 151, MIN, MAX}) {
            due("k " + k, s.nearest(0, 0, 0, k), NONE);
            dueResults("RESULTS stay", s, 7, 0, 8);
        }
        due("k 1", s.nearest(0, 0, 0, 1), 1);
        dueResults("k 1", s, 0, 0, 1);
        due("k 149", s.nearest(0, 0, 0, 149), 149);
        due("the farthest", s.result(148, 0), 148);
        due("k 150", s.nearest(0, 0, 0, 150), 150);
        due("150 RESULTS", s.size(), 150);
        due("the farthest", s.result(149, 0), 149);
        due("no more", s.result(150, 0), NONE);
        due("k 150 from afar", s.nearest(0, 65535, 0, 150), 150);
        due("the nearest", s.result(0, 0), 150);
        due("the farthest", s.result(149, 0), 1);
    }

    private static void nearestToAPlaceOf0To65535() {
        PointStore s = changed();
        s.nearest(0, 0, 0, 1);
        int[][] others = {{-1, 0}, {0, -1}, {65536, 0}, {0, 65536}, {MIN, 0}, {0, MIN}, {MAX, 0}, {0, MAX}};
        for (int[] o : others) {
            due("nearest to " + o[0] + ", " + o[1], s.nearest(0, o[0], o[1], 5), NONE);
            dueResults("RESULTS stay", s, 1, 1, 11);
        }
        due("0 and 65535", s.nearest(0, 0, 65535, 1), 1);
        dueResults("0 and 65535", s, 3, 3, 30);
        due("65535 and 0", s.nearest(0, 65535, 0, 1), 1);
        dueResults("65535 and 0", s, 3, 3, 30);
        due("0 and 0", s.nearest(0, 0, 0, 1), 1);
        dueResults("0 and 0", s, 1, 1, 11);
        due("65535 and 65535", s.nearest(0, 65535, 65535, 9), 2);
        dueResults("65535 and 65535", s, 3, 3, 30, 1, 1, 11);
    }

    private static void nearestOfAnotherState() {
        PointStore s = changed();
        s.window(1, 2, 2, 2, 2);
        for (int state : new int[] {-1, 2, MIN, MAX}) {
            due("nearest() of " + state, s.nearest(state, 0, 0, 1), NONE);
            dueResults("RESULTS stay", s, 2, 2, 20);
        }
        due("COMMITTED", s.nearest(1, 2, 2, 1), 1);
        dueResults("COMMITTED", s, 2, 2, 20);
        due("PENDING", s.nearest(0, 2, 2, 1), 1);
        dueResults("PENDING", s, 1, 1, 11);
    }

    private static void nearestIfThereAreFewer() {
        PointStore s = changed();
        due("two are there", s.nearest(0, 0, 0, 150), 2);
        dueResults("two are there", s, 1, 1, 11, 3, 3, 30);
        due("as many as are there", s.nearest(0, 0, 0, 2), 2);
        s.format();
        due("none are there", s.nearest(0, 0, 0, 1), 0);
        dueResults("none are there", s);
    }

    private static void nearestOfLikeOnesByOrder() {
        PointStore s = plain();
        int[][] circle = {{15, 10}, {13, 14}, {14, 13}, {10, 15}, {5, 10}, {10, 5}, {6, 7}, {7, 6}};
        for (int[] p : circle) {
            s.insert(p[0], p[1], 1);
        }
        due("all at a distance of 5", s.nearest(0, 10, 10, 150), 8);
        dueResults("all", s, 5, 10, 1, 6, 7, 1, 7, 6, 1, 10, 5, 1, 10, 15, 1, 13, 14, 1, 14, 13, 1, 15, 10, 1);
        due("some of like ones", s.nearest(0, 10, 10, 3), 3);
        dueResults("some", s, 5, 10, 1, 6, 7, 1, 7, 6, 1);
        s.insert(14, 12, 2);
        due("a nearer one first", s.nearest(0, 10, 10, 2), 2);
        dueResults("a nearer one", s, 14, 12, 2, 5, 10, 1);
    }

    private static void nearestBySquaresBeyondAnInt() {
        PointStore s = new PointStore(64, 4, 15);
        s.insert(0, 0, 1);
        s.insert(32767, 32767, 2);
        s.insert(32767, 0, 3);
        s.insert(0, 32767, 4);
        s.insert(19195, 19195, 5);
        due("from the far corner", s.nearest(0, 65535, 65535, 9), 5);
        dueResults("far", s, 32767, 32767, 2, 19195, 19195, 5, 0, 32767, 4, 32767, 0, 3, 0, 0, 1);
        due("along x", s.nearest(0, 65535, 0, 3), 3);
        dueResults("along x", s, 32767, 0, 3, 32767, 32767, 2, 19195, 19195, 5);
    }

    // Promise 7

    private static void differsWithNothing() {
        PointStore s = changed();
        s.commit();
        s.window(0, 0, 0, 9, 9);
        due("alike", s.differs(), 0);
        dueResults("alike", s);
        s.insert(1, 1, 12);
        s.insert(1, 1, 11);
        s.insert(8, 8, 8);
        s.delete(8, 8);
        due("alike in spite of CHANGES", s.differs(), 0);
        due("CHANGES", s.count(5), 4);
    }

    private static void differsInOneAloneOrByValue() {
        PointStore s = changed();
        due("differs()", s.differs(), 3);
        dueResults("NONE if it has none there", s, 1, 1, 11, 2, 2, NONE, 3, 3, 30);
        s.insert(2, 2, 0);
        due("VALUE 0 is not none", s.differs(), 3);
        dueResults("VALUE 0", s, 1, 1, 11, 2, 2, 0, 3, 3, 30);
    }

    private static void differsInTheMost() {
        PointStore s = row(60);
        for (int x = 59; x >= 0; x--) {
            s.delete(x, 0);
        }
        due("60 CHANGES", s.differs(), 60);
        due("60 RESULTS", s.size(), 60);
        for (int x = 0; x < 60; x++) {
            due("in ORDER", s.result(x, 0), x);
            due("none there", s.result(x, 2), NONE);
        }
    }

    // Promises 8 and 9

    private static void resultsOfOthers() {
        PointStore s = changed();
        s.window(0, 0, 0, 9, 9);
        int[][] others = {{-1, 0}, {2, 0}, {150, 0}, {MIN, 0}, {MAX, 0}, {0, -1}, {0, 3}, {0, MIN}, {0, MAX}, {1, 3}, {2, 2}, {-1, 3}};
        for (int[] o : others) {
            due("result(" + o[0] + ", " + o[1] + ")", s.result(o[0], o[1]), NONE);
        }
        due("the last one", s.result(1, 0), 3);
        due("the last one", s.result(1, 1), 3);
        due("the last one", s.result(1, 2), 30);
    }

    private static void noResultsLeftOfEarlierOnes() {
        PointStore s = row(5);
        s.window(0, 0, 0, 9, 9);
        s.window(0, 3, 0, 3, 0);
        dueResults("fewer", s, 3, 0, 4);
        due("no second one", s.result(1, 0), NONE);
        s.window(0, 8, 8, 9, 9);
        due("none", s.size(), 0);
        due("no first one", s.result(0, 0), NONE);
    }

    private static void noResultsAtFirst() {
        PointStore s = plain();
        due("size()", s.size(), 0);
        for (int what = -1; what <= 3; what++) {
            due("result(0, " + what + ")", s.result(0, what), NONE);
        }
    }

    private static void noResultsWhenThePowerWent() {
        for (int i = 0; i < 5; i++) {
            PointStore s = changed();
            s.window(1, 0, 0, 9, 9);
            due("size() ahead of it", s.size(), 2);
            s.arm(i < 4 ? i % 2 : AGAIN, 256);
            due("the power goes", i < 2 ? s.commit() : i < 4 ? s.format() : s.recover(), OFF);
            due("size()", s.size(), 0);
            due("result()", s.result(0, 0), NONE);
        }
    }

    private static void noResultsBehindRecover() {
        PointStore s = changed();
        s.window(1, 0, 0, 9, 9);
        due("recover() with the power on", s.recover(), 0);
        due("size()", s.size(), 0);
        due("result()", s.result(0, 0), NONE);
        PointStore off = without();
        off.recover();
        due("size()", off.size(), 0);
    }

    private static void resultsStayBehindOtherCalls() {
        PointStore s = changed();
        s.window(0, 0, 0, 9, 9);
        s.insert(1, 1, 99);
        s.delete(3, 3);
        s.get(0, 1, 1);
        s.sum(0, 0, 0, 9, 9);
        s.count(0);
        s.node(0, 0, 0);
        s.arm(3, 0);
        dueResults("behind insert() and delete()", s, 1, 1, 11, 3, 3, 30);
        s.commit();
        dueResults("behind commit()", s, 1, 1, 11, 3, 3, 30);
        s.abort();
        dueResults("behind abort()", s, 1, 1, 11, 3, 3, 30);
        s.format();
        dueResults("behind format()", s, 1, 1, 11, 3, 3, 30);
    }

    private static void sizeIs150AtMost() {
        PointStore s = row(160);
        due("window()", s.window(0, 0, 0, 999, 999), 160);
        due("size()", s.size(), 150);
        due("nearest()", s.nearest(0, 0, 0, 150), 150);
        due("size()", s.size(), 150);
        due("differs()", s.differs(), 0);
        due("size()", s.size(), 0);
    }

    // Promise 10

    private static void sumBeyondAnInt() {
        PointStore s = new PointStore(400, 8, 8);
        for (int i = 0; i < 60; i++) {
            s.insert(i, i, MAX);
        }
        due("60 times the greatest VALUE", s.sum(0, 0, 0, 255, 255), 60L * MAX);
        due("two of them", s.sum(0, 0, 0, 1, 1), 2L * MAX);
        due("COMMITTED", s.sum(1, 0, 0, 255, 255), 0);
        s.commit();
        due("COMMITTED", s.sum(1, MIN, MIN, MAX, MAX), 60L * MAX);
    }

    private static void sumHasItsEdges() {
        PointStore s = plain();
        s.insert(10, 10, 1);
        s.insert(10, 20, 2);
        s.insert(20, 10, 4);
        s.insert(20, 20, 8);
        due("all four", s.sum(0, 10, 10, 20, 20), 15);
        due("x0", s.sum(0, 11, 10, 20, 20), 12);
        due("x1", s.sum(0, 10, 10, 19, 20), 3);
        due("y0", s.sum(0, 10, 11, 20, 20), 10);
        due("y1", s.sum(0, 10, 10, 20, 19), 5);
        due("one place", s.sum(0, 20, 10, 20, 10), 4);
        due("the wrong way around", s.sum(0, 20, 20, 10, 10), 0);
        s.delete(20, 20);
        due("the last one left", s.sum(0, 0, 0, 255, 255), 7);
        s.abort();
        due("no POINTS", s.sum(0, 0, 0, 255, 255), 0);
    }

    private static void sumOfMoreThan150() {
        PointStore s = row(160);
        due("all of them", s.sum(1, 0, 0, 999, 999), 160 * 161 / 2);
    }

    private static void sumOfAnotherState() {
        PointStore s = changed();
        s.window(1, 2, 2, 2, 2);
        for (int state : new int[] {-1, 2, MIN, MAX}) {
            due("sum() of " + state, s.sum(state, 0, 0, 9, 9), 0);
        }
        due("PENDING", s.sum(0, 0, 0, 9, 9), 41);
        due("COMMITTED", s.sum(1, 0, 0, 9, 9), 30);
        dueResults("RESULTS stay", s, 2, 2, 20);
    }

    // Promises 11 to 13

    private static void commitWithoutChanges() {
        PointStore s = plain();
        due("a new object", s.commit(), 0);
        s.arm(BEHIND, 0);
        due("it writes nothing", s.commit(), 0);
        due("armed", s.count(7), BEHIND);
        s.insert(1, 1, -1);
        s.delete(1, 1);
        due("refused calls are none", s.commit(), 0);
    }

    private static void commitOf60Changes() {
        PointStore s = plain();
        for (int i = 0; i < 60; i++) {
            s.insert(i, 255 - i, i);
        }
        s.insert(61, 61, 61);
        due("commit()", s.commit(), 60);
        due("COMMITTED", s.count(1), 60);
        for (int i = 0; i < 60; i++) {
            due("get()", s.get(1, i, 255 - i), i);
        }
        due("twice", s.commit(), 0);
        due("COMMITTED NODES", s.count(3), s.count(2));
    }

    private static void abortBringsTheCommittedOneBack() {
        PointStore s = changed();
        s.arm(AHEAD, 0);
        due("abort()", s.abort(), 3);
        dueAsAheadOfChanges("behind it", s);
        due("twice", s.abort(), 0);
        due("it writes nothing", s.count(7), AHEAD);
        due("NODES", s.count(2), 1);
        PointStore most = full();
        due("60 CHANGES", most.abort(), 60);
        duePoints("behind it", most, 0, 1, 1, 1);
        PointStore fresh = plain();
        fresh.insert(1, 1, 1);
        due("nothing COMMITTED", fresh.abort(), 1);
        due("no POINTS", fresh.count(0), 0);
    }

    private static void formatAnswers0() {
        PointStore s = full();
        due("with POINTS and 60 CHANGES", s.format(), 0);
        due("PENDING", s.count(0), 0);
        due("COMMITTED", s.count(1), 0);
        due("CHANGES", s.count(5), 0);
        due("NODES", s.count(2), 1);
        due("COMMITTED NODES", s.count(3), 1);
        due("differs()", s.differs(), 0);
        due("without POINTS", s.format(), 0);
        due("of a new object", plain().format(), 0);
        s.insert(7, 7, 7);
        due("abort() behind it", s.abort(), 1);
        due("no POINTS", s.count(0), 0);
        due("recover() behind it", s.recover(), 0);
        due("no POINTS", s.count(1), 0);
    }

    private static void formatWritesWithoutPointsToo() {
        for (int what = AHEAD; what <= BEHIND; what++) {
            PointStore s = plain();
            s.arm(what, 0);
            due("format()", s.format(), OFF);
            due("recover()", s.recover(), 0);
            due("no POINTS", s.count(1), 0);
        }
    }

    // Promise 14

    private static void armWithNOf0To256() {
        for (int what = AHEAD; what <= AGAIN; what++) {
            PointStore s = plain();
            for (int n : new int[] {-1, 257, MIN, MAX}) {
                due("arm(" + what + ", " + n + ")", s.arm(what, n), false);
            }
            due("none is armed", s.count(7), NONE);
            for (int n : new int[] {0, 1, 128, 255, 256}) {
                due("arm(" + what + ", " + n + ")", s.arm(what, n), true);
                due("armed", s.count(7), what);
            }
        }
    }

    private static void armWithAnotherWhat() {
        PointStore s = plain();
        for (int what : new int[] {-1, 4, -2, MIN, MAX}) {
            due("arm(" + what + ", 0)", s.arm(what, 0), false);
        }
        due("none is armed", s.count(7), NONE);
        s.insert(1, 1, 1);
        due("commit()", s.commit(), 1);
    }

    private static void armThatIsFalseLeavesTheCut() {
        PointStore s = changed();
        s.arm(BEHIND, 0);
        s.arm(AHEAD, 257);
        s.arm(AGAIN, -1);
        s.arm(4, 0);
        s.arm(-1, 0);
        due("armed", s.count(7), BEHIND);
        due("commit()", s.commit(), OFF);
        s.recover();
        dueAsBehindChanges("BEHIND", s);
    }

    private static void arm3WithNAnything() {
        for (int n : new int[] {0, 256, 257, -1, MIN, MAX}) {
            PointStore s = changed();
            due("none was armed", s.arm(3, n), true);
            s.arm(AHEAD, 0);
            due("arm(3, " + n + ")", s.arm(3, n), true);
            due("none is armed", s.count(7), NONE);
            due("commit()", s.commit(), 3);
        }
    }

    // Promise 15

    private static void recoverWithThePowerOn() {
        PointStore s = changed();
        due("recover()", s.recover(), 0);
        dueAsAheadOfChanges("behind it", s);
        due("CHANGES", s.count(5), 0);
        due("twice", s.recover(), 0);
        dueAsAheadOfChanges("behind it", s);
        due("NODES", s.count(2), 1);
    }

    private static void recoverKeepsAnArmedCut() {
        for (int what = AHEAD; what <= BEHIND; what++) {
            PointStore s = without();
            s.arm(what, 40);
            due("recover()", s.recover(), 0);
            due("armed", s.count(7), what);
            s.insert(9, 9, 9);
            due("commit()", s.commit(), OFF);
            due("recover()", s.recover(), 0);
            due("(9, 9)", s.get(1, 9, 9), what == AHEAD ? NONE : 9);
        }
    }

    private static void recoverIsOffWhenThePowerWentAgain() {
        PointStore s = without();
        s.arm(AGAIN, 128);
        due("recover()", s.recover(), OFF);
        due("the power is gone", s.get(1, 1, 1), OFF);
        due("arm() does not bring it back", s.arm(3, 0), true);
        due("the power is gone", s.count(0), OFF);
        due("recover()", s.recover(), 0);
        dueAsBehindChanges("behind it", s);
    }

    // Promise 16

    private static void nodeOfNoneSuch() {
        PointStore s = new PointStore(64, 1, 8);
        s.insert(0, 0, 1);
        s.insert(255, 255, 2);
        due("the last NODE", s.node(0, 2, 5), 2);
        // Numbers that come down to a NODE's again if 6 facts a NODE are reckoned without a look at k.
        int wraps = (int) (((1L << 32) + 6) / 6);
        int[][] others = {{0, 3, 0}, {0, -1, 0}, {0, MIN, 0}, {0, MAX, 0}, {0, wraps, 0}, {0, wraps + 1, 3}, {0, 0, -1}, {0, 0, 6},
            {0, 1, 6}, {0, 0, MIN}, {0, 0, MAX}, {2, 0, 0}, {-1, 0, 0}, {MIN, 0, 0}, {MAX, 0, 0}, {1, 1, 0}};
        for (int[] o : others) {
            due("node(" + o[0] + ", " + o[1] + ", " + o[2] + ")", s.node(o[0], o[1], o[2]), NONE);
        }
    }

    private static void nodeOfEachState() {
        PointStore s = new PointStore(64, 1, 8);
        s.insert(0, 0, 1);
        s.insert(255, 255, 2);
        s.commit();
        s.delete(255, 255);
        dueNode(s, 0, 0, 256, 0, 0, 1, 0, 1);
        dueNode(s, 0, 1);
        dueNode(s, 1, 0, 256, 0, 0, 2, 1 + 8, 3);
        dueNode(s, 1, 2, 128, 128, 128, 1, 0, 2);
        s.abort();
        dueNode(s, 0, 2, 128, 128, 128, 1, 0, 2);
    }

    private static void nodeHasTheLowest16BitsOfEachValue() {
        PointStore s = new PointStore(64, 8, 8);
        int[][] values = {{65535, 65535}, {65536, 65535}, {65537, 65536}, {MAX, 131071}, {0, 131071}, {131072 + 7, 131078}};
        for (int i = 0; i < values.length; i++) {
            s.insert(i, i, values[i][0]);
            due("the sum with " + values[i][0], s.node(0, 0, 5), values[i][1]);
        }
        s.insert(3, 3, 1);
        due("another VALUE", s.node(0, 0, 5), 131078 - 65535 + 1);
        PointStore most = new PointStore(400, 8, 8);
        for (int i = 0; i < 480; i++) {
            most.insert(i % 24 * 10, i / 24 * 12, MAX);
            if (i % 24 == 23) {
                most.commit();
            }
        }
        due("480 POINTS", most.node(1, 0, 3), 480);
        due("480 POINTS", most.node(0, 0, 5), 480 * 65535);
    }

    // Promise 17

    private static void countOfOthers() {
        PointStore s = plain();
        for (int what : new int[] {-1, 11, 12, MIN, MAX}) {
            due("count(" + what + ")", s.count(what), NONE);
        }
    }

    private static void countOfEach() {
        PointStore s = new PointStore(40, 1, 5);
        s.insert(0, 0, 1);
        s.insert(31, 31, 1);
        s.commit();
        s.insert(1, 0, 1);
        s.insert(1, 0, 1);
        s.arm(BEHIND, 9);
        int[] want = {3, 2, 8, 3, 32, 2, 5, BEHIND, 40, 1, 32};
        for (int what = 0; what < want.length; what++) {
            due("count(" + what + ")", s.count(what), want[what]);
        }
    }

    private static void theDepth() {
        PointStore s = new PointStore(64, 1, 4);
        due("no POINTS", s.count(6), 0);
        s.insert(0, 0, 1);
        due("the ROOT alone", s.count(6), 0);
        int[][] nearer = {{8, 8}, {4, 4}, {2, 2}, {1, 1}};
        for (int i = 0; i < nearer.length; i++) {
            s.insert(nearer[i][0], nearer[i][1], 1);
            due("depth " + (i + 1), s.count(6), i + 1);
        }
        s.delete(1, 1);
        due("behind delete()", s.count(6), 3);
        s.abort();
        due("behind abort()", s.count(6), 0);
    }

    private static void whatItIsAndPart1() {
        test("An object is used for at most 512 calls", BoundaryTest::lifeOf512Calls);
        test("what later calls answer is free", BoundaryTest::callsBehindThe512th);
        test("THE PLANE is 0 to SPAN - 1 along x and y", BoundaryTest::planeEndsBelowSpan);
        test("a VALUE (not below 0)", BoundaryTest::valueIsNotBelow0);
        test("no two are at the same place", BoundaryTest::noTwoAtOnePlace);
        test("in ORDER by x, then y", BoundaryTest::orderIsByXThenY);
        test("CHANGES are the inserts and deletes that changed something", BoundaryTest::whatChangedNothingIsNoChange);
        test("since the latest commit(), abort(), format(), recover()", BoundaryTest::changesEndWithEachOfFour);
        test("A NODE is the ROOT", BoundaryTest::rootIsThereWithoutPoints);
        test("more than BUCKET POINTS; others are LEAVES", BoundaryTest::bucketPointsAreALeaf);
        test("its quarters with POINTS as children", BoundaryTest::quartersWithoutPointsAreNone);
        test("children, in this order", BoundaryTest::childrenAreInTheirOrder);
        test("the ROOT first, then each child with all below it", BoundaryTest::eachChildWithAllBelowIt);
        test("a REGION's side is a power of 2", BoundaryTest::aRegionOfSide1IsTheSmallest);
        test("it hangs on the STATE alone", BoundaryTest::treeHangsOnTheStateAlone);
        test("No TREE has anything else", BoundaryTest::treeIsOfTheStateAsItIsNow);
        test("THE METER is BLOCKS less the NODES", BoundaryTest::meterGoesDownTo0);
        test("NONE = -1, OFF = -2", BoundaryTest::theConstants);
    }

    private static void part2() {
        test("behind AHEAD it is as it was ahead of the call", BoundaryTest::aheadIsAsAheadOfTheCall);
        test("behind BEHIND as it would be behind it", BoundaryTest::behindIsAsBehindTheCall);
        test("commit() with CHANGES, and format(), write", BoundaryTest::formatIsCutLikewise);
        test("n of 256 parts, with 60 CHANGES", BoundaryTest::theMostChangesAreCutLikewise);
        test("AGAIN changes nothing of that", BoundaryTest::againChangesNothingOfThat);
        test("it goes at its end, if there is nothing to be written", BoundaryTest::againGoesWithNothingToBeWritten);
        test("all that is not on the disk is lost", BoundaryTest::whatIsNotOnTheDiskIsLost);
        test("a SEAL, blocks at HOME, an end", BoundaryTest::aSealedLogIsDoneOnce);
        test("another one comes in its place", BoundaryTest::anotherCutComesInItsPlace);
        test("a call that it is not for leaves it armed", BoundaryTest::aCallThatItIsNotForLeavesItArmed);
        test("when the power goes it is none", BoundaryTest::whenThePowerGoesItIsNone);
        test("commit() with CHANGES writes", BoundaryTest::changesThatCancelAreWrittenToo);
        test("all calls answer OFF and do nothing else", BoundaryTest::withoutPowerCallsAnswerOffAndDoNothing);
        test("all calls but recover(), arm(), result(), size()", BoundaryTest::withoutPowerFourCallsAnswer);
    }

    private static void promises1To4() {
        test("1: BLOCKS 1 to 400 (others: 64)", BoundaryTest::blocksAre1To400);
        test("1: BUCKET 1 to 8 (4)", BoundaryTest::bucketIs1To8);
        test("1: BITS 1 to 15 (8)", BoundaryTest::bitsAre1To15);
        test("1: No POINTS in both STATES", BoundaryTest::noPointsAtFirst);
        test("2: comes into the PENDING STATE: 0", BoundaryTest::insertIntoThePendingStateAlone);
        test("2: 1: one was there, it has the VALUE now", BoundaryTest::insertWhereOneWas);
        test("2: it counts as one of the CHANGES also if that is the same", BoundaryTest::insertOfTheSameIsAChange);
        test("2: 3: 60 CHANGES are there", BoundaryTest::insertAt60Changes);
        test("2: 3: no longer behind commit(), abort(), format(), recover()", BoundaryTest::changesGoOnBehindEachOfFour);
        test("2: 4: THE METER would be below 0", BoundaryTest::insertWithoutABlock);
        test("2: 4: with one BLOCK", BoundaryTest::insertWithOneBlock);
        test("2: 2 ahead of 3 ahead of 4; nothing is done", BoundaryTest::insertAnswers2AheadOf3AheadOf4);
        test("3: It leaves: 0", BoundaryTest::deleteLeavesTheCommittedState);
        test("3: 5: none is there", BoundaryTest::deleteWhereNoneIs);
        test("3: 3: 60 CHANGES are there", BoundaryTest::deleteAt60Changes);
        test("3: 2 ahead of 5 ahead of 3", BoundaryTest::deleteAnswers2AheadOf5AheadOf3);
        test("4: NONE for another state", BoundaryTest::getOfAnotherState);
        test("4: NONE if there is none", BoundaryTest::getWhereNoneIs);
        test("4: NONE outside", BoundaryTest::getOutside);
    }

    private static void promises5To9() {
        test("5: x0 <= x <= x1 and y0 <= y <= y1", BoundaryTest::windowHasItsEdges);
        test("5: a window beyond the PLANE", BoundaryTest::windowBeyondThePlane);
        test("5: a window with nothing in it", BoundaryTest::windowTheWrongWayAround);
        test("5: how many; RESULTS (the first 150)", BoundaryTest::windowOfMoreThan150);
        test("5: NONE: another state (RESULTS stay)", BoundaryTest::windowOfAnotherState);
        test("6: k (1 to 150)", BoundaryTest::nearestOf1To150);
        test("6: a place (0 to 65535 along both)", BoundaryTest::nearestToAPlaceOf0To65535);
        test("6: NONE: another state", BoundaryTest::nearestOfAnotherState);
        test("6: all, if there are fewer", BoundaryTest::nearestIfThereAreFewer);
        test("6: of like ones by ORDER", BoundaryTest::nearestOfLikeOnesByOrder);
        test("6: by the sum of squares", BoundaryTest::nearestBySquaresBeyondAnInt);
        test("7: POINTS in which the STATES differ: none", BoundaryTest::differsWithNothing);
        test("7: in one alone, or have other VALUES; NONE if it has none there", BoundaryTest::differsInOneAloneOrByValue);
        test("7: how many: as many as CHANGES may be", BoundaryTest::differsInTheMost);
        test("8: NONE for others", BoundaryTest::resultsOfOthers);
        test("8: NONE for those of an earlier call", BoundaryTest::noResultsLeftOfEarlierOnes);
        test("8: None at first", BoundaryTest::noResultsAtFirst);
        test("8: None when the power went", BoundaryTest::noResultsWhenThePowerWent);
        test("8: None behind recover()", BoundaryTest::noResultsBehindRecover);
        test("8: the RESULTS of the latest question, whatever comes then", BoundaryTest::resultsStayBehindOtherCalls);
        test("9: How many RESULTS there are", BoundaryTest::sizeIs150AtMost);
    }

    private static void promises10To17() {
        test("10: The sum of VALUES", BoundaryTest::sumBeyondAnInt);
        test("10: in a window, as window() has it", BoundaryTest::sumHasItsEdges);
        test("10: of more POINTS than RESULTS", BoundaryTest::sumOfMoreThan150);
        test("10: 0: another state", BoundaryTest::sumOfAnotherState);
        test("11: how many CHANGES there were: none", BoundaryTest::commitWithoutChanges);
        test("11: how many CHANGES there were: 60", BoundaryTest::commitOf60Changes);
        test("12: The COMMITTED one becomes the PENDING one: likewise", BoundaryTest::abortBringsTheCommittedOneBack);
        test("13: Both STATES have no POINTS: 0", BoundaryTest::formatAnswers0);
        test("13: format() writes", BoundaryTest::formatWritesWithoutPointsToo);
        test("14: n 0 to 256: true", BoundaryTest::armWithNOf0To256);
        test("14: false: another what", BoundaryTest::armWithAnotherWhat);
        test("14: false: the CUT stays", BoundaryTest::armThatIsFalseLeavesTheCut);
        test("14: 3: none is (n anything)", BoundaryTest::arm3WithNAnything);
        test("15: 0, also with the power on", BoundaryTest::recoverWithThePowerOn);
        test("15: All but the disk and an armed CUT is forgotten", BoundaryTest::recoverKeepsAnArmedCut);
        test("15: OFF: the power went again", BoundaryTest::recoverIsOffWhenThePowerWentAgain);
        test("16: NONE if there is none such", BoundaryTest::nodeOfNoneSuch);
        test("16: of a STATE's TREE", BoundaryTest::nodeOfEachState);
        test("16: the sum of its POINTS' VALUES' lowest 16 bits", BoundaryTest::nodeHasTheLowest16BitsOfEachValue);
        test("17: NONE for others", BoundaryTest::countOfOthers);
        test("17: 0 to 10", BoundaryTest::countOfEach);
        test("17: the depth (the ROOT alone: 0)", BoundaryTest::theDepth);
    }

    public static void main(String[] args) {
        whatItIsAndPart1();
        part2();
        promises1To4();
        promises5To9();
        promises10To17();
        System.out.println(failed == 0 ? tests + " boundary cases hold" : failed + " of " + tests + " boundary cases are broken");
        if (failed != 0) {
            System.exit(1);
        }
    }
}
