/** Promise 5. */
final class SetPathTest {
    public static void main(String[] args) {
        refusesOtherPaths();
        setsOnePath();
        keepsErrorsActivityAndLosses();
        Check.finish();
    }

    private static void refusesOtherPaths() {
        AssocStream x = Check.established(1);
        String before = Check.picture(x);
        for (int path : new int[] {Check.MIN, -1, 2, 3, Check.MAX}) {
            Check.due("setPath(" + path + ")", x.setPath(path, false), false);
        }
        Check.due("refused calls change nothing", Check.picture(x), before);
        x.loseNext(0, 1);
        x.send(0, true);
        x.send(0, true);
        Check.due("path 0 still passes", x.run(1, 0), 1);
        Check.due("path 1 still passes", x.run(1, 0), 1);
    }

    private static void setsOnePath() {
        AssocStream x = Check.established(8);
        Check.due("setPath(0, false)", x.setPath(0, false), true);
        Check.due("setPath(0, false) again", x.setPath(0, false), true);
        x.send(0, true);
        Check.due("path 0 is down", x.run(1, 0), 0);
        Check.due("path 1 is up", x.run(1, 0), 1);
        Check.due("setPath(0, true)", x.setPath(0, true), true);
        Check.due("setPath(1, false)", x.setPath(1, false), true);
        x.send(0, true);
        Check.due("path 0 is up", x.run(1, 0), 1);
        x.loseNext(0, 1);
        x.send(0, true);
        Check.due("path 1 is down", x.run(3, 0), 0);
        Check.due("setPath(1, true)", x.setPath(1, true), true);
        Check.due("path 1 is up", x.run(1, 0), 1);
    }

    private static void keepsErrorsActivityAndLosses() {
        AssocStream x = Check.established(1);
        x.loseNext(0, 2);
        x.send(0, true);
        x.run(1, Check.LOST);
        x.setPath(1, false);
        x.send(0, true);
        x.run(1, 0);
        Check.due("path 0 is inactive", x.pathActive(0), false);
        String before = Check.picture(x);
        x.setPath(0, false);
        x.setPath(1, true);
        Check.due("nothing answered changes", Check.picture(x), before);
        x.setPath(0, true);
        x.setPath(1, false);
        Check.due("nothing answered changes", Check.picture(x), before);

        AssocStream y = Check.established(8);
        y.loseNext(0, 1);
        y.setPath(0, false);
        y.setPath(0, true);
        y.send(0, true);
        Check.due("the loss is kept", y.run(1, 0), 0);
    }
}
