/** Promise 5. */
final class SetPathTest {
    public static void main(String[] args) {
        Check.sentence("If path is not 0 or 1, setPath(path, up) answers false", SetPathTest::refusesOtherPaths);
        Check.sentence("If path is not 0 or 1, setPath(path, up) changes nothing.", SetPathTest::refusedChangesNothing);
        Check.sentence("Otherwise UP[path] = up and the call answers true: path 0", SetPathTest::setsPathZero);
        Check.sentence("Otherwise UP[path] = up and the call answers true: path 1", SetPathTest::setsPathOne);
        Check.sentence("UP[path] = up: the same value again", SetPathTest::sameValueAgain);
        Check.sentence("ACTIVE, ERRORS are unchanged, as are PRIMARY, NOW and everything else.", SetPathTest::nothingAnsweredChanges);
        Check.sentence("LOSE is unchanged", SetPathTest::lossesAreKept);
        Check.sentence("everything else is unchanged: STAMP", SetPathTest::stampIsKept);
        Check.sentence("everything else is unchanged: what has no getter", SetPathTest::nothingHiddenChanges);
        Check.finish();
    }

    private static void refusesOtherPaths() {
        AssocStream x = Check.established(1);
        for (int path : Check.NO_PATHS) {
            Check.due("setPath(" + path + ", false)", x.setPath(path, false), false);
            Check.due("setPath(" + path + ", true)", x.setPath(path, true), false);
        }
    }

    private static void refusedChangesNothing() {
        for (boolean up : new boolean[] {false, true}) {
            Situations.all().forEach((name, make) -> Check.changesNothing("refused setPath, " + name, make, x -> {
                for (int path : Check.NO_PATHS) {
                    x.setPath(path, up);
                }
            }));
        }
    }

    private static void setsPathZero() {
        AssocStream x = Check.established(8);
        Check.due("setPath(0, false)", x.setPath(0, false), true);
        x.send(0, true);
        Check.due("path 0 is down", x.run(1, 0), 0);
        Check.due("path 1 is up", x.run(1, 0), 1);
        Check.due("setPath(0, true)", x.setPath(0, true), true);
        x.send(0, true);
        Check.due("path 0 is up", x.run(1, 0), 1);
    }

    private static void setsPathOne() {
        AssocStream x = Check.established(8);
        Check.due("setPath(1, false)", x.setPath(1, false), true);
        x.send(0, true);
        Check.due("path 0 is up", x.run(1, 0), 1);
        x.loseNext(0, 1);
        x.send(0, true);
        Check.due("path 1 is down", x.run(3, 0), 0);
        Check.due("setPath(1, true)", x.setPath(1, true), true);
        Check.due("path 1 is up", x.run(1, 0), 1);
    }

    private static void sameValueAgain() {
        AssocStream x = Check.established(8);
        Check.due("setPath(0, true) when up", x.setPath(0, true), true);
        x.send(0, true);
        Check.due("path 0 is up", x.run(1, 0), 1);
        Check.due("setPath(0, false)", x.setPath(0, false), true);
        Check.due("setPath(0, false) when down", x.setPath(0, false), true);
        x.send(0, true);
        Check.due("path 0 is down", x.run(1, 0), 0);
    }

    private static void nothingAnsweredChanges() {
        Situations.all().forEach((name, make) -> {
            AssocStream x = make.get();
            String before = Check.picture(x);
            for (int call = 0; call < 8; call++) {
                x.setPath(call & 1, (call & 2) == 0);
                Check.due("setPath, " + name, Check.picture(x), before);
            }
        });
    }

    private static void lossesAreKept() {
        for (boolean up : new boolean[] {false, true}) {
            AssocStream x = Check.established(8);
            x.loseNext(0, 3);
            x.loseNext(1, 2);
            Check.setBoth(x, up);
            Check.setBoth(x, true);
            Check.sendMany(x, 4, 0, true);
            Check.due("three of four lost on path 0", x.run(1, 0), 1);
            Check.due("two of three lost on path 1", x.run(1, 0), 1);
        }
    }

    private static void stampIsKept() {
        for (int path = 0; path < 2; path++) {
            AssocStream x = Situations.replyLost(2);
            x.setPath(path, true);
            x.run(1, 0);
            Check.due("the cookie is as old as it was", x.clientState(), AssocStream.COOKIE_WAIT);
            AssocStream y = Situations.replyLost(1);
            y.setPath(path, true);
            y.run(1, 0);
            Check.due("the cookie is as young as it was", y.clientState(), AssocStream.ESTABLISHED);
        }
    }

    private static void nothingHiddenChanges() {
        Situations.all().forEach((name, make) -> {
            AssocStream x = make.get();
            AssocStream y = make.get();
            Check.setBoth(x, false);
            Check.setBoth(x, true);
            Check.setBoth(y, true);
            Check.sameFuture("down and up again, " + name, x, y);
            Check.changesNothing("UP as it was, " + name, make, z -> {
                z.setPath(0, Situations.isUp(name, 0));
                z.setPath(1, Situations.isUp(name, 1));
            });
        });
    }
}
