/** One method for each promise of ../shared/DOC.md, with answers worked out by hand from its words. */
public final class PromiseTest {
    private static final int NONE = PointStore.NONE;
    private static final int OFF = PointStore.OFF;
    private static final int MIN = Integer.MIN_VALUE;
    private static final int MAX = Integer.MAX_VALUE;

    private static int wrong = 0;

    private static void due(String call, long got, long want) {
        if (got != want) {
            wrong++;
            System.out.println(call + " answered " + got + ", due is " + want);
        }
    }

    private static void due(String call, boolean got, boolean want) {
        due(call, got ? 1 : 0, want ? 1 : 0);
    }

    /** The RESULTS, three numbers each. */
    private static void dueResults(String call, PointStore s, int... want) {
        due(call + ": size()", s.size(), want.length / 3);
        for (int i = 0; i < want.length; i++) {
            due(call + ": result(" + i / 3 + ", " + i % 3 + ")", s.result(i / 3, i % 3), want[i]);
        }
    }

    /** A NODE's six numbers. */
    private static void dueNode(String call, PointStore s, int state, int k, int... want) {
        for (int what = 0; what < 6; what++) {
            String name = call + ": node(" + state + ", " + k + ", " + what + ")";
            due(name, s.node(state, k, what), want.length == 0 ? NONE : want[what]);
        }
    }

    private static PointStore plain() {
        return new PointStore(64, 4, 8);
    }

    /** (1, 1) to (n, 1) with VALUES 100 + x, all committed. */
    private static PointStore row(int n) {
        PointStore s = new PointStore(400, 8, 10);
        for (int x = 1; x <= n; x++) {
            s.insert(x, 1, 100 + x);
            if (x % 60 == 0) {
                s.commit();
            }
        }
        s.commit();
        return s;
    }

    private static void promise1() {
        int[][] asked = {{1, 1, 1}, {400, 8, 15}, {0, 0, 0}, {401, 9, 16}, {-1, -1, -1}, {MIN, MAX, MIN}, {7, 3, 10}};
        int[][] taken = {{1, 1, 2}, {400, 8, 32768}, {64, 4, 256}, {64, 4, 256}, {64, 4, 256}, {64, 4, 256}, {7, 3, 1024}};
        for (int i = 0; i < asked.length; i++) {
            PointStore s = new PointStore(asked[i][0], asked[i][1], asked[i][2]);
            due("1: BLOCKS of " + i, s.count(8), taken[i][0]);
            due("1: BUCKET of " + i, s.count(9), taken[i][1]);
            due("1: SPAN of " + i, s.count(10), taken[i][2]);
            due("1: PENDING of " + i, s.count(0), 0);
            due("1: COMMITTED of " + i, s.count(1), 0);
            due("1: METER of " + i, s.count(4), taken[i][0] - 1);
            due("1: CUT of " + i, s.count(7), NONE);
            due("1: RESULTS of " + i, s.size(), 0);
        }
        due("1: one is wrong alone", new PointStore(9, 9, 9).count(9), 4);
        due("1: one is wrong alone", new PointStore(9, 9, 9).count(8), 9);
        due("1: one is wrong alone", new PointStore(9, 9, 9).count(10), 512);
    }

    private static void promise2() {
        PointStore s = plain();
        due("2: new", s.insert(0, 0, 0), 0);
        due("2: at the end of the PLANE", s.insert(255, 255, MAX), 0);
        due("2: its VALUE", s.get(0, 255, 255), MAX);
        due("2: another VALUE", s.insert(255, 255, 6), 1);
        due("2: its VALUE", s.get(0, 255, 255), 6);
        due("2: the same VALUE", s.insert(255, 255, 6), 1);
        due("2: the same VALUE is a CHANGE", s.count(5), 4);
        int[][] outside = {{256, 0, 1}, {0, 256, 1}, {-1, 0, 1}, {0, -1, 1}, {MAX, MAX, 1}, {MIN, MIN, 1}, {0, 0, -1}, {0, 0, MIN}};
        for (int[] o : outside) {
            due("2: outside", s.insert(o[0], o[1], o[2]), 2);
        }
        due("2: outside is no CHANGE", s.count(5), 4);
        due("2: the VALUE stays", s.get(0, 0, 0), 0);
        due("2: not COMMITTED", s.get(1, 0, 0), NONE);
        for (int i = 4; i < 60; i++) {
            due("2: CHANGE " + i, s.insert(7, 7, i), i == 4 ? 0 : 1);
        }
        due("2: 60 CHANGES", s.count(5), 60);
        due("2: a 61st", s.insert(1, 1, 1), 3);
        due("2: a 61st where one is", s.insert(7, 7, 1), 3);
        due("2: outside ahead of a 61st", s.insert(256, 1, 1), 2);
        due("2: VALUE ahead of a 61st", s.insert(1, 1, -1), 2);
        due("2: nothing is done", s.get(0, 1, 1), NONE);
        due("2: nothing is done", s.get(0, 7, 7), 59);
        due("2: all of them go", s.commit(), 60);
        due("2: and another one comes", s.insert(1, 1, 1), 0);
        meter();
    }

    private static void meter() {
        PointStore s = new PointStore(1, 2, 3);
        due("2: ROOT alone", s.insert(0, 0, 1), 0);
        due("2: ROOT alone", s.insert(7, 7, 2), 0);
        due("2: no BLOCK", s.insert(0, 7, 3), 4);
        due("2: nothing is done", s.get(0, 0, 7), NONE);
        due("2: nothing is done", s.count(5), 2);
        due("2: nothing is done", s.count(2), 1);
        due("2: one that is there needs no BLOCK", s.insert(0, 0, 5), 1);
        due("2: the METER", s.count(4), 0);
        for (int i = 3; i < 60; i++) {
            s.insert(0, 0, i);
        }
        due("2: 60 CHANGES ahead of no BLOCK", s.insert(0, 7, 3), 3);

        // (0, 0) and (1, 1) of SPAN 16 want five NODES above each other and one more.
        PointStore six = new PointStore(6, 1, 4);
        six.insert(0, 0, 1);
        due("2: just enough BLOCKS", six.insert(1, 1, 1), 0);
        due("2: the METER", six.count(4), 0);
        due("2: another NODE", six.insert(1, 0, 1), 4);
        PointStore five = new PointStore(5, 1, 4);
        five.insert(0, 0, 1);
        due("2: one BLOCK too few", five.insert(1, 1, 1), 4);
        due("2: the METER as before", five.count(4), 4);
        due("2: farther away", five.insert(8, 8, 1), 0);
        due("2: the METER", five.count(4), 2);
    }

    private static void promise3() {
        PointStore s = plain();
        s.insert(3, 4, 5);
        s.insert(4, 3, 6);
        s.commit();
        due("3: none there", s.delete(3, 3), 5);
        int[][] outside = {{256, 0}, {0, 256}, {-1, 4}, {3, -1}, {MAX, MIN}};
        for (int[] o : outside) {
            due("3: outside", s.delete(o[0], o[1]), 2);
        }
        due("3: no CHANGES", s.count(5), 0);
        due("3: it leaves", s.delete(3, 4), 0);
        due("3: it left", s.get(0, 3, 4), NONE);
        due("3: the other one stays", s.get(0, 4, 3), 6);
        due("3: COMMITTED has it", s.get(1, 3, 4), 5);
        due("3: a CHANGE", s.count(5), 1);
        due("3: twice", s.delete(3, 4), 5);
        for (int i = 1; i < 60; i++) {
            s.insert(9, 9, i);
        }
        due("3: 60 CHANGES", s.delete(9, 9), 3);
        due("3: none there ahead of 60 CHANGES", s.delete(3, 4), 5);
        due("3: outside ahead of 60 CHANGES", s.delete(3, 256), 2);
        due("3: nothing is done", s.get(0, 9, 9), 59);

        PointStore narrow = new PointStore(6, 1, 4);
        narrow.insert(0, 0, 1);
        narrow.insert(1, 1, 1);
        narrow.delete(1, 1);
        due("3: its BLOCKS are free", narrow.count(4), 5);
    }

    private static void promise4() {
        PointStore s = plain();
        s.insert(10, 20, 30);
        due("4: PENDING", s.get(0, 10, 20), 30);
        due("4: COMMITTED", s.get(1, 10, 20), NONE);
        s.commit();
        s.insert(10, 20, 31);
        due("4: PENDING", s.get(0, 10, 20), 31);
        due("4: COMMITTED", s.get(1, 10, 20), 30);
        due("4: x and y", s.get(0, 20, 10), NONE);
        for (int state : new int[] {-1, 2, MAX, MIN}) {
            due("4: another state", s.get(state, 10, 20), NONE);
        }
        int[][] outside = {{-1, 20}, {10, -1}, {256, 20}, {10, 256}, {MIN, MAX}, {9, 20 + 32768}};
        for (int[] o : outside) {
            due("4: outside", s.get(0, o[0], o[1]), NONE);
        }
    }

    private static void promise5() {
        PointStore s = plain();
        s.insert(5, 1, 51);
        s.insert(1, 9, 19);
        s.insert(1, 2, 12);
        s.insert(7, 7, 77);
        s.commit();
        s.delete(1, 9);
        due("5: all", s.window(1, 0, 0, 255, 255), 4);
        dueResults("5: all", s, 1, 2, 12, 1, 9, 19, 5, 1, 51, 7, 7, 77);
        due("5: PENDING", s.window(0, MIN, MIN, MAX, MAX), 3);
        dueResults("5: PENDING", s, 1, 2, 12, 5, 1, 51, 7, 7, 77);
        due("5: with its edges", s.window(1, 1, 1, 5, 9), 3);
        dueResults("5: with its edges", s, 1, 2, 12, 1, 9, 19, 5, 1, 51);
        due("5: inside its edges", s.window(1, 2, 2, 6, 8), 0);
        dueResults("5: inside its edges", s);
        due("5: one place", s.window(1, 7, 7, 7, 7), 1);
        due("5: another state", s.window(2, 0, 0, 255, 255), NONE);
        due("5: another state", s.window(-1, 0, 0, 255, 255), NONE);
        dueResults("5: RESULTS stay", s, 7, 7, 77);
        due("5: the wrong way around", s.window(1, 9, 9, 0, 0), 0);
        dueResults("5: the wrong way around", s);

        PointStore many = row(170);
        due("5: more than 150", many.window(1, 3, 1, 170, 1), 168);
        due("5: the first 150", many.size(), 150);
        due("5: the first one", many.result(0, 0), 3);
        due("5: the last one", many.result(149, 0), 152);
        due("5: no more", many.result(150, 0), NONE);
    }

    private static void promise6() {
        PointStore s = plain();
        s.insert(10, 10, 1);
        s.insert(10, 14, 2);
        s.insert(14, 10, 3);
        s.insert(13, 13, 4);
        s.insert(6, 10, 5);
        s.commit();
        s.delete(10, 10);
        due("6: two", s.nearest(1, 10, 10, 2), 2);
        dueResults("6: of like ones by ORDER", s, 10, 10, 1, 6, 10, 5);
        due("6: all", s.nearest(1, 10, 10, 150), 5);
        dueResults("6: all", s, 10, 10, 1, 6, 10, 5, 10, 14, 2, 14, 10, 3, 13, 13, 4);
        due("6: PENDING", s.nearest(0, 12, 13, 1), 1);
        dueResults("6: PENDING", s, 13, 13, 4);
        int[][] others = {{2, 0, 0, 1}, {-1, 0, 0, 1}, {0, -1, 0, 1}, {0, 65536, 0, 1}, {0, 0, -1, 1}, {0, 0, 65536, 1},
            {0, 0, 0, 0}, {0, 0, 0, 151}, {0, 0, 0, -1}, {0, MIN, MAX, 1}};
        for (int[] o : others) {
            due("6: another one", s.nearest(o[0], o[1], o[2], o[3]), NONE);
        }
        dueResults("6: RESULTS stay", s, 13, 13, 4);
        due("6: far outside", s.nearest(1, 65535, 65535, 3), 3);
        dueResults("6: far outside", s, 13, 13, 4, 10, 14, 2, 14, 10, 3);

        PointStore wide = new PointStore(400, 8, 15);
        wide.insert(0, 0, 1);
        wide.insert(32767, 0, 2);
        wide.insert(32767, 32767, 3);
        wide.nearest(0, 65535, 65535, 3);
        dueResults("6: squares beyond an int", wide, 32767, 32767, 3, 32767, 0, 2, 0, 0, 1);

        PointStore many = row(170);
        due("6: 150 of more", many.nearest(0, 0, 1, 150), 150);
        due("6: the farthest of them", many.result(149, 0), 150);
        due("6: from the other side", many.nearest(0, 1000, 1, 150), 150);
        due("6: the nearest", many.result(0, 0), 170);
        due("6: the farthest of them", many.result(149, 0), 21);
        due("6: none", plain().nearest(0, 0, 0, 1), 0);
    }

    private static void promise7() {
        PointStore s = plain();
        s.insert(1, 1, 11);
        s.insert(2, 2, 22);
        s.insert(3, 3, 33);
        s.commit();
        due("7: alike", s.differs(), 0);
        s.delete(2, 2);
        s.insert(3, 3, 34);
        s.insert(0, 9, 9);
        s.insert(1, 1, 11);
        due("7: they differ", s.differs(), 3);
        dueResults("7: they differ", s, 0, 9, 9, 2, 2, NONE, 3, 3, 34);
        s.insert(2, 2, 22);
        s.insert(3, 3, 33);
        s.delete(0, 9);
        due("7: alike again, behind CHANGES", s.differs(), 0);
        dueResults("7: alike again", s);
        s.insert(5, 5, 0);
        due("7: VALUE 0", s.differs(), 1);
        dueResults("7: VALUE 0", s, 5, 5, 0);
        s.commit();
        due("7: behind commit()", s.differs(), 0);
        s.delete(1, 1);
        s.abort();
        due("7: behind abort()", s.differs(), 0);
        PointStore fresh = plain();
        fresh.insert(8, 8, 8);
        due("7: nothing COMMITTED", fresh.differs(), 1);
        fresh.commit();
        fresh.delete(8, 8);
        fresh.insert(8, 7, 8);
        due("7: none in both", fresh.differs(), 2);
        dueResults("7: none in both", fresh, 8, 7, 8, 8, 8, NONE);
    }

    private static void promise8() {
        PointStore s = plain();
        due("8: none at first", s.result(0, 0), NONE);
        s.insert(4, 5, 6);
        s.window(0, 0, 0, 9, 9);
        dueResults("8: what", s, 4, 5, 6);
        int[][] others = {{0, 3}, {0, -1}, {1, 0}, {-1, 0}, {MAX, 0}, {MIN, 2}, {0, MIN}};
        for (int[] o : others) {
            due("8: others", s.result(o[0], o[1]), NONE);
        }
        s.insert(4, 5, 7);
        s.commit();
        s.delete(4, 5);
        s.abort();
        dueResults("8: as they were found", s, 4, 5, 6);
        due("8: recover()", s.recover(), 0);
        dueResults("8: none behind recover()", s);
        due("8: none behind recover()", s.result(0, 0), NONE);
        s.window(1, 0, 0, 9, 9);
        s.arm(0, 0);
        s.format();
        due("8: none when the power went", s.result(0, 0), NONE);
        s.recover();
        s.window(1, 0, 0, 9, 9);
        s.arm(2, 0);
        s.recover();
        due("8: none when the power went again", s.result(0, 0), NONE);
    }

    private static void promise9() {
        PointStore s = row(3);
        due("9: none at first", s.size(), 0);
        s.window(0, 2, 0, 9, 9);
        due("9: of window()", s.size(), 2);
        s.nearest(0, 0, 0, 1);
        due("9: of nearest()", s.size(), 1);
        s.delete(1, 1);
        s.delete(2, 1);
        s.differs();
        due("9: of differs()", s.size(), 2);
        s.sum(0, 0, 0, 9, 9);
        due("9: sum() leaves them", s.size(), 2);
        s.arm(1, 9);
        s.commit();
        due("9: none when the power went", s.size(), 0);
    }

    private static void promise10() {
        PointStore s = plain();
        s.insert(1, 1, MAX);
        s.insert(2, 2, MAX);
        s.insert(3, 3, 5);
        s.commit();
        s.insert(3, 3, 6);
        due("10: beyond an int", s.sum(0, 0, 0, 9, 9), 2L * MAX + 6);
        due("10: COMMITTED", s.sum(1, MIN, MIN, MAX, MAX), 2L * MAX + 5);
        due("10: with its edges", s.sum(1, 2, 2, 3, 3), (long) MAX + 5);
        due("10: the wrong way around", s.sum(1, 3, 3, 1, 1), 0);
        due("10: another state", s.sum(2, 0, 0, 9, 9), 0);
        due("10: another state", s.sum(-1, 0, 0, 9, 9), 0);
    }

    private static void promise11() {
        PointStore s = plain();
        due("11: no CHANGES", s.commit(), 0);
        s.insert(1, 1, 1);
        s.insert(1, 1, 2);
        s.insert(2, 2, 2);
        s.delete(2, 2);
        s.delete(9, 9);
        due("11: CHANGES", s.commit(), 4);
        due("11: no CHANGES left", s.count(5), 0);
        due("11: COMMITTED", s.get(1, 1, 1), 2);
        due("11: COMMITTED", s.count(1), 1);
        due("11: PENDING", s.get(0, 1, 1), 2);
        due("11: its TREE", s.node(1, 0, 3), 1);
        due("11: twice", s.commit(), 0);
        s.recover();
        due("11: it is on the disk", s.get(0, 1, 1), 2);
    }

    private static void promise12() {
        PointStore s = plain();
        due("12: no CHANGES", s.abort(), 0);
        s.insert(1, 1, 1);
        s.commit();
        s.insert(1, 1, 2);
        s.insert(2, 2, 2);
        s.delete(1, 1);
        due("12: CHANGES", s.abort(), 3);
        due("12: no CHANGES left", s.count(5), 0);
        due("12: PENDING", s.get(0, 1, 1), 1);
        due("12: PENDING", s.count(0), 1);
        due("12: COMMITTED", s.get(1, 1, 1), 1);
        due("12: nothing to commit", s.commit(), 0);
        s.arm(0, 0);
        s.insert(3, 3, 3);
        due("12: it writes nothing", s.abort(), 1);
        due("12: a CUT is not for it", s.count(7), 0);
    }

    private static void promise13() {
        PointStore s = plain();
        s.insert(1, 1, 1);
        s.commit();
        s.insert(2, 2, 2);
        due("13: format()", s.format(), 0);
        due("13: PENDING", s.count(0), 0);
        due("13: COMMITTED", s.count(1), 0);
        due("13: CHANGES", s.count(5), 0);
        due("13: NODES", s.count(2) + s.count(3), 2);
        due("13: get()", s.get(1, 1, 1), NONE);
        s.recover();
        due("13: it is on the disk", s.count(1), 0);
        s.insert(2, 2, 3);
        due("13: usable behind it", s.commit(), 1);
        due("13: usable behind it", s.get(1, 2, 2), 3);
        s.arm(1, 0);
        s.insert(1, 1, 1);
        due("13: the power goes", s.format(), OFF);
        due("13: recover()", s.recover(), 0);
        due("13: as behind it", s.count(1), 0);
        due("13: a CUT goes with no POINTS too", s.arm(0, 128), true);
        due("13: a CUT goes with no POINTS too", s.format(), OFF);
        PointStore full = row(60);
        for (int i = 0; i < 60; i++) {
            full.insert(1, 1, i);
        }
        due("13: behind 60 CHANGES", full.format(), 0);
        due("13: behind 60 CHANGES", full.recover(), 0);
        due("13: behind 60 CHANGES", full.count(1), 0);
    }

    private static void promise14() {
        PointStore s = plain();
        for (int what = 0; what <= 2; what++) {
            due("14: arm", s.arm(what, 0), true);
            due("14: armed", s.count(7), what);
            due("14: arm", s.arm(what, 256), true);
            due("14: n", s.arm((what + 1) % 3, -1), false);
            due("14: n", s.arm((what + 1) % 3, 257), false);
            due("14: what", s.arm(4, 1), false);
            due("14: what", s.arm(-1, 1), false);
            due("14: what", s.arm(MIN, MAX), false);
            due("14: still armed", s.count(7), what);
        }
        due("14: none", s.arm(3, MIN), true);
        due("14: none", s.count(7), NONE);
        s.insert(1, 1, 1);
        due("14: none", s.commit(), 1);

        s.arm(0, 5);
        s.insert(2, 2, 2);
        due("14: AHEAD is not for recover()", s.recover(), 0);
        due("14: AHEAD is not for commit() without CHANGES", s.commit(), 0);
        due("14: still armed", s.count(7), 0);
        s.arm(2, 5);
        s.insert(3, 3, 3);
        due("14: AGAIN is not for commit()", s.commit(), 1);
        due("14: AGAIN is not for format()", s.format(), 0);
        due("14: still armed", s.count(7), 2);
        s.arm(1, 5);
        due("14: another one in its place", s.recover(), 0);
        s.insert(3, 3, 3);
        due("14: it goes", s.commit(), OFF);
        due("14: arm() without power", s.arm(0, 7), true);
        due("14: arm() without power", s.arm(0, 300), false);
        due("14: AHEAD is not for recover()", s.recover(), 0);
        due("14: armed without power", s.count(7), 0);
        s.insert(4, 4, 4);
        due("14: it goes once more", s.commit(), OFF);
        s.recover();
        due("14: and is none", s.count(7), NONE);
        s.insert(4, 4, 4);
        due("14: and is none", s.commit(), 1);
    }

    private static void promise15() {
        PointStore on = plain();
        on.insert(1, 1, 1);
        on.commit();
        on.insert(2, 2, 2);
        on.window(0, 0, 0, 9, 9);
        due("15: with the power on", on.recover(), 0);
        due("15: PENDING is forgotten", on.count(0), 1);
        due("15: CHANGES are forgotten", on.count(5), 0);
        due("15: RESULTS are forgotten", on.size(), 0);
        on.arm(2, 0);
        due("15: AGAIN, nothing to be written", on.recover(), OFF);
        allOff(on);
        due("15: and back", on.recover(), 0);
        due("15: COMMITTED", on.get(1, 1, 1), 1);
        cutTwice();
        for (int n = 0; n <= 256; n++) {
            for (int again = NONE; again <= 256; again += 1 + n % 97) {
                cutCommit(0, n, again);
                cutCommit(1, n, again);
                cutFormat(0, n, again);
                cutFormat(1, n, again);
            }
        }
    }

    /** What one log has done must not be done again when the next one has no SEAL. */
    private static void cutTwice() {
        for (int n = 0; n <= 256; n++) {
            PointStore s = beforeCut();
            s.arm(1, n);
            s.commit();
            s.recover();
            for (int i = 0; i < 7; i++) {
                s.insert(20 + i, 20, 20);
            }
            s.arm(0, 256 - n);
            due("15: cut twice: commit()", s.commit(), OFF);
            due("15: cut twice: recover()", s.recover(), 0);
            s.window(0, 0, 0, 63, 63);
            dueResults("15: cut twice", s, 1, 1, 10, 2, 2, 20, 4, 4, 4);
        }
    }

    private static PointStore beforeCut() {
        PointStore s = new PointStore(64, 2, 6);
        s.insert(1, 1, 1);
        s.insert(2, 2, 2);
        s.insert(3, 3, 3);
        s.commit();
        s.insert(1, 1, 10);
        s.delete(2, 2);
        s.insert(4, 4, 4);
        s.insert(2, 2, 20);
        s.delete(3, 3);
        s.insert(5, 5, 5);
        s.delete(5, 5);
        return s;
    }

    private static void recoverFrom(String name, PointStore s, int again) {
        if (again != NONE) {
            s.arm(2, again);
            due(name + "recover() again", s.recover(), OFF);
            due(name + "still off", s.count(0), OFF);
        }
        due(name + "recover()", s.recover(), 0);
        due(name + "CHANGES", s.count(5), 0);
        due(name + "CUT", s.count(7), NONE);
        due(name + "differs()", s.differs(), 0);
    }

    private static void cutCommit(int what, int n, int again) {
        String name = "15: cut " + what + " " + n + " " + again + ": ";
        PointStore s = beforeCut();
        s.arm(what, n);
        due(name + "commit()", s.commit(), OFF);
        recoverFrom(name, s, again);
        s.window(1, 0, 0, 63, 63);
        if (what == 0) {
            dueResults(name, s, 1, 1, 1, 2, 2, 2, 3, 3, 3);
        } else {
            dueResults(name, s, 1, 1, 10, 2, 2, 20, 4, 4, 4);
        }
        s.insert(9, 9, 9);
        due(name + "commit() behind it", s.commit(), 1);
        due(name + "recover() behind it", s.recover(), 0);
        due(name + "POINTS behind it", s.count(1), 4);
    }

    private static void cutFormat(int what, int n, int again) {
        String name = "15: format, cut " + what + " " + n + " " + again + ": ";
        PointStore s = beforeCut();
        s.arm(what, n);
        due(name + "format()", s.format(), OFF);
        recoverFrom(name, s, again);
        due(name + "POINTS", s.window(0, 0, 0, 63, 63), what == 0 ? 3 : 0);
        due(name + "sum()", s.sum(1, 0, 0, 63, 63), what == 0 ? 6 : 0);
    }

    private static void allOff(PointStore s) {
        due("15: insert()", s.insert(8, 8, 8), OFF);
        due("15: insert() outside", s.insert(-1, 8, 8), OFF);
        due("15: delete()", s.delete(1, 1), OFF);
        due("15: get()", s.get(1, 1, 1), OFF);
        due("15: get() of another state", s.get(5, 1, 1), OFF);
        due("15: window()", s.window(1, 0, 0, 9, 9), OFF);
        due("15: nearest()", s.nearest(1, 0, 0, 1), OFF);
        due("15: differs()", s.differs(), OFF);
        due("15: sum()", s.sum(1, 0, 0, 9, 9), OFF);
        due("15: sum() of another state", s.sum(5, 0, 0, 9, 9), OFF);
        due("15: commit()", s.commit(), OFF);
        due("15: abort()", s.abort(), OFF);
        due("15: format()", s.format(), OFF);
        due("15: node()", s.node(0, 0, 0), OFF);
        due("15: count()", s.count(8), OFF);
        due("15: count() of others", s.count(99), OFF);
        due("15: size()", s.size(), 0);
        due("15: result()", s.result(0, 0), NONE);
    }

    private static void promise16() {
        PointStore s = new PointStore(64, 1, 2);
        dueNode("16: no POINTS", s, 0, 0, 4, 0, 0, 0, 0, 0);
        s.insert(3, 0, 65536 + 1);
        s.insert(0, 3, 65535);
        s.insert(3, 3, 65535);
        s.insert(2, 2, 65535);
        dueNode("16: the ROOT", s, 0, 0, 4, 0, 0, 4, 2 + 4 + 8, 3 * 65535 + 1);
        dueNode("16: higher x", s, 0, 1, 2, 2, 0, 1, 0, 1);
        dueNode("16: higher y", s, 0, 2, 2, 0, 2, 1, 0, 65535);
        dueNode("16: both higher", s, 0, 3, 2, 2, 2, 2, 1 + 8, 2 * 65535);
        dueNode("16: all below it", s, 0, 4, 1, 2, 2, 1, 0, 65535);
        dueNode("16: all below it", s, 0, 5, 1, 3, 3, 1, 0, 65535);
        dueNode("16: no more", s, 0, 6);
        dueNode("16: COMMITTED", s, 1, 0, 4, 0, 0, 0, 0, 0);
        dueNode("16: COMMITTED", s, 1, 1);
        int[][] others = {{0, -1, 0}, {0, 0, 6}, {0, 0, -1}, {2, 0, 0}, {-1, 0, 0}, {0, MAX, 0}, {0, MIN, MIN}, {1, 0, MAX}};
        for (int[] o : others) {
            due("16: others", s.node(o[0], o[1], o[2]), NONE);
        }
        s.commit();
        s.delete(3, 0);
        s.delete(0, 3);
        dueNode("16: behind delete()", s, 0, 0, 4, 0, 0, 2, 8, 2 * 65535);
        dueNode("16: behind delete()", s, 0, 1, 2, 2, 2, 2, 1 + 8, 2 * 65535);
        dueNode("16: COMMITTED", s, 1, 1, 2, 2, 0, 1, 0, 1);
        s.insert(2, 2, 0);
        dueNode("16: another VALUE", s, 0, 0, 4, 0, 0, 2, 8, 65535);
        s.delete(3, 3);
        dueNode("16: a LEAF again", s, 0, 0, 4, 0, 0, 1, 0, 0);

        PointStore eight = new PointStore(64, 8, 15);
        for (int i = 0; i < 8; i++) {
            eight.insert(4096 * i, 0, 1);
        }
        dueNode("16: BUCKET POINTS", eight, 0, 0, 32768, 0, 0, 8, 0, 8);
        eight.insert(32767, 32767, 1);
        dueNode("16: one more", eight, 0, 0, 32768, 0, 0, 9, 1 + 2 + 8, 9);
        dueNode("16: one more", eight, 0, 3, 16384, 16384, 16384, 1, 0, 1);
    }

    private static void promise17() {
        PointStore s = new PointStore(40, 1, 5);
        s.insert(0, 0, 1);
        s.insert(31, 31, 1);
        s.commit();
        s.insert(1, 0, 1);
        int[] want = {3, 2, 8, 3, 32, 1, 5, NONE, 40, 1, 32};
        for (int what = 0; what < want.length; what++) {
            due("17: count(" + what + ")", s.count(what), want[what]);
        }
        for (int what : new int[] {-1, 11, MIN, MAX}) {
            due("17: others", s.count(what), NONE);
        }
        s.arm(2, 0);
        due("17: the CUT", s.count(7), 2);
        s.abort();
        due("17: the depth", s.count(6), 1);
        s.format();
        due("17: the depth of the ROOT", s.count(6), 0);
        PointStore deep = new PointStore(400, 1, 15);
        deep.insert(32767, 32767, 0);
        deep.insert(32766, 32766, 0);
        due("17: the depth", deep.count(6), 15);
        due("17: NODES", deep.count(2), 17);
    }

    /** README.md's example, call by call. */
    private static void readme() {
        PointStore store = new PointStore(64, 4, 8);
        due("README: insert()", store.insert(10, 20, 7), 0);
        due("README: commit()", store.commit(), 1);
        due("README: window()", store.window(1, 0, 0, 99, 99), 1);
        due("README: result()", store.result(0, 2), 7);
        due("README: arm()", store.arm(1, 128), true);
        due("README: delete()", store.delete(10, 20), 0);
        due("README: commit()", store.commit(), OFF);
        due("README: recover()", store.recover(), 0);
        due("README: get()", store.get(1, 10, 20), NONE);
    }

    public static void main(String[] args) {
        due("NONE", PointStore.NONE, -1);
        due("OFF", PointStore.OFF, -2);
        promise1();
        promise2();
        promise3();
        promise4();
        promise5();
        promise6();
        promise7();
        promise8();
        promise9();
        promise10();
        promise11();
        promise12();
        promise13();
        promise14();
        promise15();
        promise16();
        promise17();
        readme();
        System.out.println(wrong == 0 ? "all promises hold" : wrong + " answers are not as due");
        if (wrong != 0) {
            System.exit(1);
        }
    }
}
