/** Promise 6. */
final class LoseNextTest {
    public static void main(String[] args) {
        refusesOtherPaths();
        losesThatMany();
        replacesTheOldCount();
        clampsTheCount();
        changesNothingAnswered();
        Check.finish();
    }

    private static void refusesOtherPaths() {
        AssocStream x = Check.established(1);
        String before = Check.picture(x);
        for (int path : new int[] {Check.MIN, -1, 2, 3, Check.MAX}) {
            Check.due("loseNext(" + path + ")", x.loseNext(path, 5), false);
        }
        Check.due("refused calls change nothing", Check.picture(x), before);
        x.send(0, true);
        Check.due("nothing is lost on path 0", x.run(1, 0), 1);
        x.loseNext(0, 1);
        x.send(0, true);
        Check.due("nothing is lost on path 1", x.run(2, 0), 1);
    }

    private static void losesThatMany() {
        for (int count = 0; count <= 16; count++) {
            AssocStream x = Check.established(8);
            for (int i = 0; i < 16; i++) {
                x.send(0, true);
            }
            Check.due("loseNext(0, " + count + ")", x.loseNext(0, count), true);
            Check.due("arrivals past " + count + " losses", x.run(1, 0), 16 - count);
        }
    }

    private static void replacesTheOldCount() {
        AssocStream x = Check.established(8);
        x.loseNext(0, 9);
        x.loseNext(0, 2);
        for (int i = 0; i < 5; i++) {
            x.send(0, true);
        }
        Check.due("the later count holds", x.run(1, 0), 3);
        x.loseNext(1, 3);
        x.loseNext(1, 0);
        Check.due("0 takes the losses away", x.run(1, 0), 2);
    }

    private static void clampsTheCount() {
        for (int count : new int[] {Check.MIN, -255, -1, 0}) {
            checkLosses(count, 0);
        }
        checkLosses(1, 1);
        checkLosses(254, 254);
        for (int count : new int[] {255, 256, 1000, Check.MAX}) {
            checkLosses(count, 255);
        }
    }

    /** Path 1 has failed for good, so every try of a message goes over path 0. */
    private static void checkLosses(int count, int lost) {
        AssocStream x = Check.established(1);
        x.setPath(1, false);
        x.loseNext(0, 1);
        x.send(0, true);
        x.run(4, 0);
        Check.due("path 1 has failed", x.pathActive(1), false);
        Check.due("loseNext(0, " + count + ")", x.loseNext(0, count), true);
        x.send(0, true);
        for (int i = 0; i < 20; i++) {
            x.run(16, 0);
        }
        Check.due("tries on path 0 under " + count, x.transmissions(1), lost + 1);
    }

    private static void changesNothingAnswered() {
        AssocStream x = Check.established(1);
        x.send(0, true);
        x.run(1, Check.LOST);
        String before = Check.picture(x);
        x.loseNext(0, 3);
        x.loseNext(1, -3);
        Check.due("nothing answered changes", Check.picture(x), before);
        x.setPath(1, false);
        x.loseNext(1, 0);
        x.run(1, 0);
        Check.due("a down path stays down", x.pathErrors(1), 1);
    }
}
