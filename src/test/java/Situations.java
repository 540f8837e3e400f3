import java.util.LinkedHashMap;
import java.util.Map;
import java.util.function.Supplier;

/** Objects in states far apart, each made anew at every asking, for the sentences that hold in every state. */
final class Situations {
    private Situations() {
    }

    static Map<String, Supplier<AssocStream>> all() {
        Map<String, Supplier<AssocStream>> all = new LinkedHashMap<>();
        all.put("new", Situations::made);
        all.put("closed, a window of messages waits", Situations::closedFull);
        all.put("closed after an abort", Situations::aborted);
        all.put("cookie wait", Situations::cookieWait);
        all.put("cookie wait, failed over", Situations::cookieWaitFailedOver);
        all.put("cookie echoed, cookie at its last round", () -> cookieEchoed(2));
        all.put("cookie echoed, cookie too old", () -> cookieEchoed(3));
        all.put("cookie accepted, its reply lost, at its last round", () -> replyLost(1));
        all.put("cookie accepted, its reply lost, too old", () -> replyLost(2));
        all.put("established, idle", () -> Check.established(1));
        all.put("established, losses wait on either path", Situations::lossesWait);
        all.put("established, both paths down", Situations::bothDown);
        all.put("messages held behind a lost one", Situations::held);
        all.put("received, but the reply was lost", Situations::receivedUnacked);
        all.put("window full for the oldest message alone", Situations::windowFull);
        all.put("failed over with data outstanding", Situations::failedOver);
        all.put("both paths inactive", Situations::bothInactive);
        all.put("limit reached, last window outstanding", Situations::limitOutstanding);
        all.put("limit reached, all delivered", Situations::limitDelivered);
        return all;
    }

    /** UP has no getter, so it is told here. */
    static boolean isUp(String name, int path) {
        return name.contains("failed over") ? path == 1 : !name.contains("both paths");
    }

    /** LOSE has no getter, so it is told here. */
    static int losses(String name, int path) {
        return name.contains("losses wait") ? 3 - path : 0;
    }

    static AssocStream made() {
        return new AssocStream(Check.KEY, 2, 1, 7);
    }

    static AssocStream closedFull() {
        AssocStream x = made();
        for (int id = 0; id < 16; id++) {
            x.send(id % 8, id % 3 == 0);
        }
        return x;
    }

    /** The server has accepted tag 9 before the client of tag 7 came; a forged echo and a stale one came too. */
    static AssocStream aborted() {
        AssocStream x = made();
        x.send(2, false);
        Check.echo(x, 0, 0);
        Check.echo(x, 9, 0);
        x.run(3, 0);
        Check.echo(x, 9, 0);
        x.connect();
        x.run(2, 0);
        return x;
    }

    static AssocStream cookieWait() {
        AssocStream x = made();
        x.send(0, false);
        x.connect();
        return x;
    }

    static AssocStream cookieWaitFailedOver() {
        AssocStream x = cookieWait();
        x.setPath(0, false);
        x.run(2, 0);
        return x;
    }

    /** The next round judges the cookie at this age; LIFE is 2. */
    static AssocStream cookieEchoed(int age) {
        AssocStream x = new AssocStream(Check.KEY, 2, 8, 7);
        x.send(1, false);
        x.connect();
        x.run(1, 0);
        x.setPath(0, false);
        x.run(age - 1, 0);
        x.setPath(0, true);
        return x;
    }

    /** The server has the client's tag, but the client has not heard of it in this many rounds; LIFE is 2. */
    static AssocStream replyLost(int rounds) {
        AssocStream x = new AssocStream(Check.KEY, 2, 3, 7);
        x.connect();
        x.run(1, 0);
        x.run(rounds, Check.LOST);
        return x;
    }

    static AssocStream lossesWait() {
        AssocStream x = Check.established(3);
        x.loseNext(0, 3);
        x.loseNext(1, 2);
        return x;
    }

    static AssocStream bothDown() {
        AssocStream x = Check.established(2);
        Check.setBoth(x, false);
        return x;
    }

    static AssocStream held() {
        AssocStream x = Check.established(1);
        Check.sendMany(x, 3, 0, false);
        Check.sendMany(x, 2, 1, false);
        x.send(0, true);
        x.loseNext(0, 1);
        x.run(1, Check.TWICE);
        return x;
    }

    static AssocStream receivedUnacked() {
        AssocStream x = Check.established(1);
        Check.sendMany(x, 2, 0, false);
        x.send(3, true);
        x.run(1, Check.LOST);
        return x;
    }

    static AssocStream windowFull() {
        AssocStream x = Check.established(8);
        Check.sendMany(x, 16, 4, false);
        x.loseNext(0, 1);
        x.run(1, 0);
        return x;
    }

    static AssocStream failedOver() {
        AssocStream x = Check.established(1);
        x.setPath(0, false);
        x.send(0, false);
        x.run(1, 0);
        x.send(0, false);
        x.run(1, 0);
        return x;
    }

    static AssocStream bothInactive() {
        AssocStream x = bothDown();
        x.send(5, false);
        x.run(16, 0);
        return x;
    }

    static AssocStream limitOutstanding() {
        AssocStream x = Check.established(1);
        for (int id = 0; id < 128; id++) {
            x.send(id % 8, id % 5 == 0);
            if (id % 16 == 15 && id < 127) {
                x.run(1, 0);
            }
        }
        return x;
    }

    static AssocStream limitDelivered() {
        AssocStream x = limitOutstanding();
        x.run(1, 0);
        return x;
    }
}
