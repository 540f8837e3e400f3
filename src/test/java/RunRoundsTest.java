/** Promise 4: the count of rounds, the bits of mode, the answer, Step 1, and what run leaves alone. */
final class RunRoundsTest {
    public static void main(String[] args) {
        Check.sentence("clamps rounds to 1..16: too small", RunRoundsTest::tooFewRounds);
        Check.sentence("clamps rounds to 1..16: too large", RunRoundsTest::tooManyRounds);
        Check.sentence("performs that many rounds.", RunRoundsTest::thatManyRounds);
        Check.sentence("Only the bits 1, 2 and 4 of mode are looked at (mode & 7); all other bits are ignored.",
            RunRoundsTest::otherBitsAreIgnored);
        Check.sentence("each of the bits 1, 2 and 4 of mode is looked at", RunRoundsTest::eachBitCounts);
        Check.sentence("This also holds for negative values: for example, mode -1 has all three bits set.",
            RunRoundsTest::negativeModes);
        Check.sentence("answers the number of ids appended to the delivery log during the whole call: none",
            RunRoundsTest::answersZero);
        Check.sentence("answers the number of ids appended to the delivery log during the whole call: several rounds",
            RunRoundsTest::answersForAllRounds);
        Check.sentence("answers the number of ids appended to the delivery log during the whole call: held ones set free",
            RunRoundsTest::answersForHeldMessages);
        Check.sentence("Step 1. NOW = NOW + 1.", RunRoundsTest::nowRisesByOne);
        Check.sentence("SENT[0], SENT[1] become false.", RunRoundsTest::sentIsForgotten);
        Check.sentence("ANSWERED[0] and ANSWERED[1] become false.", RunRoundsTest::answeredIsForgotten);
        Check.sentence("REPLY is true when mode lacks MODE_NO_REPLY.", RunRoundsTest::replyHoldsForEveryRound);
        Check.sentence("CLOSED: nothing happens.", RunRoundsTest::nothingWhenClosed);
        Check.sentence("What happens depends on STATE at the start of this step.", RunRoundsTest::oneStateARound);
        Check.sentence("they never consume LOSE: INIT", RunRoundsTest::initTakesNoLoss);
        Check.sentence("they never consume LOSE: the cookie echo", RunRoundsTest::echoTakesNoLoss);
        Check.sentence("they never consume LOSE: heartbeats", RunRoundsTest::heartbeatTakesNoLoss);
        Check.sentence("UP[p] is never changed by run", RunRoundsTest::upIsNeverChanged);
        Check.sentence("LOSE[p] changes only by the decrements above: idle rounds", RunRoundsTest::idleRoundsKeepLosses);
        Check.sentence("LOSE[p] changes only by the decrements above: the other path's chunks",
            RunRoundsTest::otherPathKeepsLosses);
        Check.finish();
    }

    private static int roundsDone(int rounds) {
        AssocStream x = Situations.made();
        Check.due("run(" + rounds + ") when CLOSED", x.run(rounds, 0), 0);
        return x.counter(AssocStream.C_NOW);
    }

    private static void tooFewRounds() {
        for (int rounds : new int[] {Check.MIN, Check.MIN + 1, -65535, -16, -2, -1, 0}) {
            Check.due("NOW after run(" + rounds + ")", roundsDone(rounds), 1);
        }
    }

    private static void tooManyRounds() {
        for (int rounds : new int[] {17, 18, 32, 33, 256, 257, 65537, Check.MAX - 1, Check.MAX}) {
            Check.due("NOW after run(" + rounds + ")", roundsDone(rounds), 16);
        }
    }

    private static void thatManyRounds() {
        for (int rounds = 1; rounds <= 16; rounds++) {
            Check.due("NOW after run(" + rounds + ")", roundsDone(rounds), rounds);
            AssocStream x = Situations.bothDown();
            x.send(0, true);
            x.run(rounds, 0);
            Check.due("tries in run(" + rounds + ")", x.transmissions(0), rounds);
        }
    }

    private static String afterMode(int mode) {
        AssocStream x = Check.established(1);
        Check.sendMany(x, 2, 0, false);
        x.send(0, true);
        x.run(1, mode);
        return Check.picture(x);
    }

    private static void otherBitsAreIgnored() {
        for (int low = 0; low < 8; low++) {
            String want = afterMode(low);
            for (int bit = 3; bit < 32; bit++) {
                Check.due("mode " + low + " and bit " + bit, afterMode(1 << bit | low), want);
                Check.due("mode " + low + " and all bits from " + bit, afterMode(-1 << bit | low), want);
            }
        }
    }

    private static void eachBitCounts() {
        String[] rest = {"path 0+ path 0+ counters 3 3 0 3 0 ", " 0 0 0 messages 1a 1a 1a log "};
        String[] lost = {"path 1+ path 0+ counters 3 3 3 3 0 ", " 0 0 0 messages 1u 1u 1u log "};
        for (int mode = 0; mode < 8; mode++) {
            String[] words = (mode & 4) == 0 ? rest : lost;
            String want = words[0] + ((mode & 2) == 0 ? 0 : 3) + words[1] + ((mode & 1) == 0 ? "0 1 2" : "2 0 1");
            Check.due("mode " + mode, afterMode(mode), "state 3 tag 7 primary 0 " + want);
        }
    }

    private static void negativeModes() {
        Check.due("mode -1", afterMode(-1), afterMode(7));
        Check.due("mode -2", afterMode(-2), afterMode(6));
        Check.due("mode -3", afterMode(-3), afterMode(5));
        Check.due("mode -4", afterMode(-4), afterMode(4));
        Check.due("mode -5", afterMode(-5), afterMode(3));
        Check.due("mode -6", afterMode(-6), afterMode(2));
        Check.due("mode -7", afterMode(-7), afterMode(1));
        Check.due("mode -8", afterMode(-8), afterMode(0));
        Check.due("mode MIN", afterMode(Check.MIN), afterMode(0));
        Check.due("mode MIN + 7", afterMode(Check.MIN + 7), afterMode(7));
        Check.due("mode MAX", afterMode(Check.MAX), afterMode(7));
        Check.due("what mode -1 leaves", afterMode(-1),
            "state 3 tag 7 primary 0 path 1+ path 0+ counters 3 3 3 3 0 3 0 0 0 messages 1u 1u 1u log 2 0 1");
    }

    private static void answersZero() {
        Check.due("nothing was sent", Check.established(1).run(16, 0), 0);
        Check.due("nothing can arrive", Situations.bothInactive().run(16, 0), 0);
        Check.due("all was delivered before", Situations.limitDelivered().run(16, 0), 0);
        Check.due("copies alone arrive", Situations.receivedUnacked().run(16, Check.TWICE), 0);
        AssocStream x = Check.established(8);
        Check.sendMany(x, 3, 0, false);
        x.loseNext(0, 1);
        Check.due("all that arrives is held", x.run(1, 0), 0);
    }

    private static void answersForAllRounds() {
        AssocStream x = Situations.made();
        x.connect();
        Check.sendMany(x, 2, 0, false);
        x.send(1, true);
        x.loseNext(0, 1);
        Check.due("handshake, a loss and the second try in one call", x.run(4, 0), 3);
        x.send(0, false);
        Check.due("only what this call delivered", x.run(16, 0), 1);
        Check.sendMany(x, 16, 0, true);
        Check.due("a whole window", x.run(1, 0), 16);
    }

    private static void answersForHeldMessages() {
        AssocStream x = Situations.windowFull();
        Check.due("held so far", x.counter(AssocStream.C_HELD), 15);
        Check.due("one arrives, sixteen are delivered", x.run(1, 0), 16);
    }

    private static void nowRisesByOne() {
        Situations.all().forEach((name, make) -> {
            AssocStream x = make.get();
            int before = x.counter(AssocStream.C_NOW);
            x.run(1, 0);
            Check.due("NOW, " + name, x.counter(AssocStream.C_NOW), before + 1);
            x.run(1, 7);
            Check.due("NOW, " + name, x.counter(AssocStream.C_NOW), before + 2);
        });
        AssocStream y = Situations.made();
        for (int call = 1; call <= 5000; call++) {
            y.run(16, 0);
        }
        Check.due("NOW after 80000 rounds", y.counter(AssocStream.C_NOW), 80000);
    }

    private static void sentIsForgotten() {
        AssocStream x = Check.established(8);
        x.send(0, true);
        x.run(1, Check.LOST);
        x.run(1, Check.LOST);
        Check.checkErrors("one try on each path", x, 1, 1);
        x.run(1, 0);
        Check.checkErrors("path 1 answered, path 0 had nothing", x, 1, 0);
        x.run(8, Check.LOST);
        Check.checkErrors("nothing is sent any more", x, 1, 0);
    }

    private static void answeredIsForgotten() {
        AssocStream x = Check.established(8);
        x.send(0, true);
        x.run(1, 0);
        Check.checkErrors("path 0 answered", x, 0, 0);
        x.loseNext(0, 1);
        x.send(0, true);
        x.run(1, 0);
        Check.checkErrors("path 0 did not answer in this round", x, 1, 0);
        x.run(1, 0);
        Check.checkErrors("path 1 answered", x, 1, 0);
        x.setPath(1, false);
        x.loseNext(0, 1);
        x.send(0, true);
        x.run(2, 0);
        Check.checkErrors("path 1 did not answer in this round", x, 2, 1);
    }

    private static void replyHoldsForEveryRound() {
        AssocStream x = Check.established(8);
        x.send(0, true);
        x.run(3, Check.LOST | Check.TWICE);
        Check.due("transmissions over three rounds", x.transmissions(0), 3);
        Check.due("duplicates over three rounds", x.counter(AssocStream.C_DUPLICATES), 5);
        Check.due("acked without a reply", x.isAcked(0), false);
        x.run(1, Check.TWICE | Check.REVERSE);
        Check.due("acked with a reply", x.isAcked(0), true);
    }

    private static void nothingWhenClosed() {
        AssocStream x = Situations.made();
        x.send(0, true);
        Check.due("delivered when CLOSED", x.run(16, 0), 0);
        Check.setBoth(x, false);
        x.run(16, 0);
        Check.due("rounds when CLOSED", Check.picture(x),
            "state 0 tag 0 primary 0 path 0+ path 0+ counters 32 1 1 0 0 0 0 0 0 messages 0u log ");
    }

    private static void oneStateARound() {
        AssocStream x = Situations.cookieWait();
        x.run(1, 0);
        Check.due("no echo in the round of INIT", x.serverTag(), 0);
        x.run(1, 0);
        Check.due("no data in the round of the COOKIE-ACK", x.transmissions(0), 0);
        AssocStream y = Situations.cookieEchoed(3);
        y.run(1, 0);
        Check.due("no INIT in the round of the ERROR", y.clientState(), AssocStream.COOKIE_WAIT);
    }

    private static void initTakesNoLoss() {
        AssocStream x = Situations.made();
        x.connect();
        x.loseNext(0, 1);
        x.run(1, 0);
        Check.due("INIT is answered beside LOSE", x.clientState(), AssocStream.COOKIE_ECHOED);
        x.run(1, 0);
        checkOneLossLeft("after the handshake", x);
    }

    private static void echoTakesNoLoss() {
        AssocStream x = Situations.made();
        x.connect();
        x.run(1, 0);
        x.loseNext(0, 1);
        x.run(1, 0);
        Check.due("the echo is answered beside LOSE", x.clientState(), AssocStream.ESTABLISHED);
        checkOneLossLeft("after the echo", x);
    }

    private static void checkOneLossLeft(String when, AssocStream x) {
        Check.sendMany(x, 3, 0, true);
        Check.due(when + ": one of three chunks is lost", x.run(1, 0), 2);
    }

    private static void heartbeatTakesNoLoss() {
        AssocStream x = Situations.failedOver();
        x.setPath(0, true);
        x.loseNext(0, 1);
        x.run(1, 0);
        Check.checkActive("a heartbeat is answered beside LOSE", x, true, true, 1);
        x.loseNext(1, 1);
        x.send(0, true);
        x.run(1, 0);
        Check.due("the loss waited for the second try on path 0", x.run(1, 0), 0);
        Check.due("and is used up then", x.run(1, 0), 1);
    }

    private static void upIsNeverChanged() {
        AssocStream x = Situations.bothInactive();
        for (int call = 0; call < 10; call++) {
            x.run(16, call);
        }
        Check.checkActive("down paths stay down", x, false, false, 0);
        AssocStream y = Check.established(8);
        for (int call = 0; call < 8; call++) {
            y.send(0, true);
            y.run(1, Check.LOST);
        }
        Check.due("up paths stay up", y.run(1, 0), 0);
        Check.due("all are acked", y.counter(AssocStream.C_OUTSTANDING), 0);
    }

    private static void idleRoundsKeepLosses() {
        AssocStream x = Check.established(8);
        x.loseNext(0, 2);
        x.run(16, 0);
        Check.sendMany(x, 3, 0, true);
        Check.due("two of three chunks are lost", x.run(1, 0), 1);
    }

    private static void otherPathKeepsLosses() {
        AssocStream x = Check.established(8);
        x.loseNext(1, 2);
        Check.sendMany(x, 16, 0, true);
        Check.due("none is lost on path 0", x.run(1, 0), 16);
        x.loseNext(0, 3);
        Check.sendMany(x, 3, 0, true);
        x.run(1, 0);
        Check.due("two of three second tries are lost on path 1", x.run(1, 0), 1);
        x.loseNext(0, 1);
        Check.due("none on path 1 now, and path 0 is not used", x.run(1, 0), 2);
        x.send(0, true);
        Check.due("the loss on path 0 is still there", x.run(1, 0), 0);
    }
}
