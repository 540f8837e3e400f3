/** Promise 6. */
final class LoseNextTest {
    public static void main(String[] args) {
        Check.sentence("If path is not 0 or 1, loseNext(path, count) answers false", LoseNextTest::refusesOtherPaths);
        Check.sentence("If path is not 0 or 1, loseNext(path, count) changes nothing.", LoseNextTest::refusedChangesNothing);
        Check.sentence("Otherwise LOSE[path] = count, and the call answers true: path 0", LoseNextTest::losesOnPathZero);
        Check.sentence("Otherwise LOSE[path] = count, and the call answers true: path 1", LoseNextTest::losesOnPathOne);
        Check.sentence("Nothing else changes: LOSE of the other path", LoseNextTest::otherPathKeepsItsLosses);
        Check.sentence("it replaces the old value", LoseNextTest::replacesTheOldCount);
        Check.sentence("negative counts give 0", LoseNextTest::negativeCountsGiveZero);
        Check.sentence("counts above 255 give 255", LoseNextTest::largeCountsGive255);
        Check.sentence("count clamped to 0..255: within", LoseNextTest::countsWithin);
        Check.sentence("Nothing else changes: what is answered", LoseNextTest::nothingAnsweredChanges);
        Check.sentence("Nothing else changes: UP and what has no getter", LoseNextTest::nothingHiddenChanges);
        Check.finish();
    }

    private static void refusesOtherPaths() {
        AssocStream x = Check.established(1);
        for (int path : Check.NO_PATHS) {
            for (int count : new int[] {Check.MIN, -1, 0, 5, 255, 256, Check.MAX}) {
                Check.due("loseNext(" + path + ", " + count + ")", x.loseNext(path, count), false);
            }
        }
    }

    private static void refusedChangesNothing() {
        for (int count : new int[] {0, 9}) {
            Situations.all().forEach((name, make) -> Check.changesNothing("refused loseNext, " + name, make, x -> {
                for (int path : Check.NO_PATHS) {
                    x.loseNext(path, count);
                }
            }));
        }
    }

    private static void losesOnPathZero() {
        for (int count = 0; count <= 16; count++) {
            AssocStream x = Check.established(8);
            Check.sendMany(x, 16, 0, true);
            Check.due("loseNext(0, " + count + ")", x.loseNext(0, count), true);
            Check.due("arrivals on path 0 past " + count + " losses", x.run(1, 0), 16 - count);
            Check.due("none is lost on path 1", x.run(1, 0), count);
        }
    }

    private static void losesOnPathOne() {
        for (int count = 0; count <= 16; count++) {
            AssocStream x = Check.established(8);
            Check.sendMany(x, 16, 0, true);
            x.setPath(0, false);
            x.run(1, 0);
            Check.due("loseNext(1, " + count + ")", x.loseNext(1, count), true);
            Check.due("arrivals on path 1 past " + count + " losses", x.run(1, 0), 16 - count);
        }
    }

    private static void otherPathKeepsItsLosses() {
        for (int last = 0; last < 2; last++) {
            AssocStream x = Check.established(8);
            x.loseNext(1 - last, 1 + last);
            x.loseNext(last, 2 - last);
            Check.sendMany(x, 3, 0, true);
            Check.due("two of three lost on path 0", x.run(1, 0), 1);
            Check.due("one of two lost on path 1", x.run(1, 0), 1);
            Check.due("and no more", x.run(1, 0), 1);
        }
    }

    private static void replacesTheOldCount() {
        AssocStream x = Check.established(8);
        x.loseNext(0, 9);
        x.loseNext(0, 2);
        Check.sendMany(x, 5, 0, true);
        Check.due("the later, smaller count holds", x.run(1, 0), 3);
        x.loseNext(1, 3);
        x.loseNext(1, 0);
        Check.due("0 takes the losses away", x.run(1, 0), 2);
        x.loseNext(0, 1);
        x.loseNext(0, 3);
        Check.sendMany(x, 5, 0, true);
        Check.due("the later, larger count holds", x.run(1, 0), 2);
        x.loseNext(1, 255);
        x.loseNext(1, -1);
        Check.due("a negative count takes the losses away", x.run(1, 0), 3);
    }

    private static void negativeCountsGiveZero() {
        for (int count : new int[] {Check.MIN, Check.MIN + 1, -65535, -256, -255, -2, -1}) {
            checkLosses(count, 0);
        }
    }

    private static void largeCountsGive255() {
        for (int count : new int[] {256, 257, 511, 512, 65535, 65536, Check.MAX - 1, Check.MAX}) {
            checkLosses(count, 255);
        }
    }

    private static void countsWithin() {
        for (int count : new int[] {0, 1, 2, 127, 128, 254, 255}) {
            checkLosses(count, count);
        }
    }

    /** Path 1 has failed for good, so every try of a message goes over path 0. */
    private static void checkLosses(int count, int lost) {
        AssocStream x = Check.established(1);
        x.setPath(1, false);
        x.loseNext(0, 1);
        x.send(0, true);
        x.run(4, 0);
        Check.checkActive("path 1 has failed", x, true, false, 0);
        Check.due("loseNext(0, " + count + ")", x.loseNext(0, count), true);
        x.send(0, true);
        for (int i = 0; i < 20; i++) {
            x.run(16, 0);
        }
        Check.due("tries on path 0 under " + count, x.transmissions(1), lost + 1);
    }

    private static void nothingAnsweredChanges() {
        Situations.all().forEach((name, make) -> {
            AssocStream x = make.get();
            String before = Check.picture(x);
            for (int count : new int[] {Check.MIN, 0, 7, Check.MAX}) {
                x.loseNext(0, count);
                x.loseNext(1, count);
                Check.due("loseNext, " + name, Check.picture(x), before);
            }
        });
    }

    private static void nothingHiddenChanges() {
        Situations.all().forEach((name, make) -> {
            AssocStream x = make.get();
            AssocStream y = make.get();
            x.loseNext(0, 40);
            x.loseNext(1, 40);
            for (AssocStream each : new AssocStream[] {x, y}) {
                each.loseNext(0, 2);
                each.loseNext(1, 1);
            }
            Check.sameFuture("losses set twice, " + name, x, y);
            Check.changesNothing("LOSE as it was, " + name, make, z -> {
                z.loseNext(0, Situations.losses(name, 0));
                z.loseNext(1, Situations.losses(name, 1));
            });
        });
        AssocStream z = Situations.bothDown();
        z.loseNext(0, 0);
        z.loseNext(1, 0);
        z.send(0, true);
        Check.due("down paths stay down", z.run(4, 0), 0);
    }
}
