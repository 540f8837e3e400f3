/** Promise 16, and the counter kinds of 'What it is'. */
final class CounterTest {
    private static final int[] NO_KINDS = {Check.MIN, Check.MIN + 1, -65536, -256, -9, -2, -1, 9, 10, 15, 16, 255, 256, 257,
        65536, Check.MAX - 1, Check.MAX};

    public static void main(String[] args) {
        Check.sentence("counter: or -1 for any other kind.", CounterTest::otherKinds);
        Check.sentence("C_NOW = 0 (NOW)", CounterTest::now);
        Check.sentence("C_SUBMITTED = 1 (messages accepted by send)", CounterTest::submitted);
        Check.sentence("C_OUTSTANDING = 2 (number of UNACKED messages)", CounterTest::outstanding);
        Check.sentence("C_OUTSTANDING equals C_SUBMITTED minus the number of ACKED messages", CounterTest::outstandingAdds);
        Check.sentence("C_DELIVERED = 3 (length of the delivery log)", CounterTest::delivered);
        Check.sentence("C_HELD is the number of HELD messages at the moment of the call.", CounterTest::held);
        Check.sentence("C_DUPLICATES = 5 (data chunk copies discarded because already RECEIVED)", CounterTest::duplicates);
        Check.sentence("C_FORGED = 6 (injectEcho calls answered ECHO_FORGED)", CounterTest::forged);
        Check.sentence("C_STALE = 7 (echoes judged stale, injected or the client's own)", CounterTest::stale);
        Check.sentence("C_ABORTS = 8 (times the client went to CLOSED on an ABORT)", CounterTest::aborts);
        Check.sentence("C_DUPLICATES, C_FORGED, C_STALE and C_ABORTS start at 0 and only increase.", CounterTest::onlyIncrease);
        Check.sentence("counter: It changes nothing.", CounterTest::changesNothing);
        Check.finish();
    }

    private static void otherKinds() {
        Situations.all().forEach((name, make) -> {
            AssocStream x = make.get();
            for (int kind : NO_KINDS) {
                Check.due("counter(" + kind + "), " + name, x.counter(kind), -1);
            }
        });
    }

    private static void checkKind(String when, AssocStream x, int kind, int want) {
        Check.due(when + ": counter(" + kind + ")", x.counter(kind), want);
    }

    private static void now() {
        AssocStream x = Situations.made();
        checkKind("new", x, 0, 0);
        x.run(16, 0);
        checkKind("a call", x, 0, 16);
        x.run(-5, 0);
        checkKind("a clamped call", x, 0, 17);
        x.connect();
        x.send(0, true);
        Check.echo(x, 9, 17);
        x.setPath(0, false);
        x.loseNext(0, 1);
        checkKind("other calls take no time", x, 0, 17);
    }

    private static void submitted() {
        AssocStream x = Check.established(1);
        checkKind("none", x, 1, 0);
        x.send(0, true);
        x.send(8, true);
        checkKind("one accepted, one refused", x, 1, 1);
        x.run(4, 0);
        checkKind("delivered and acked", x, 1, 1);
        checkKind("at the limit", Situations.limitDelivered(), 1, 128);
        AssocStream y = Situations.limitDelivered();
        y.send(0, true);
        checkKind("past the limit", y, 1, 128);
    }

    private static void outstanding() {
        AssocStream x = Situations.closedFull();
        checkKind("none sent yet", x, 2, 16);
        x.connect();
        x.run(2, 0);
        x.loseNext(0, 3);
        x.run(1, 0);
        checkKind("three lost", x, 2, 3);
        x.run(1, Check.LOST);
        checkKind("arrived, reply lost", x, 2, 3);
        x.run(1, 0);
        checkKind("answered", x, 2, 0);
    }

    private static void outstandingAdds() {
        Situations.all().forEach((name, make) -> {
            AssocStream x = make.get();
            for (int step = 0; step < 6; step++) {
                int acked = 0;
                for (int id = 0; id < x.counter(AssocStream.C_SUBMITTED); id++) {
                    acked += x.isAcked(id) ? 1 : 0;
                }
                checkKind(name, x, 2, x.counter(AssocStream.C_SUBMITTED) - acked);
                x.send(step, step % 2 == 0);
                x.run(1, step);
            }
        });
    }

    private static void delivered() {
        checkKind("empty", Situations.windowFull(), 3, 0);
        AssocStream x = Situations.held();
        checkKind("three at once", x, 3, 3);
        x.run(1, 0);
        checkKind("and the held ones", x, 3, 6);
        checkKind("full", Situations.limitDelivered(), 3, 128);
    }

    private static void held() {
        checkKind("none", Situations.made(), 4, 0);
        AssocStream x = Situations.windowFull();
        checkKind("fifteen", x, 4, 15);
        x.run(1, 0);
        checkKind("set free", x, 4, 0);
        AssocStream y = Situations.held();
        checkKind("two", y, 4, 2);
        y.send(0, true);
        y.loseNext(1, 1);
        y.run(1, 0);
        checkKind("an unordered one is not held", y, 4, 2);
        y.send(0, false);
        y.loseNext(1, 1);
        y.run(1, 0);
        checkKind("three", y, 4, 3);
        checkKind("full log", Situations.limitDelivered(), 4, 0);
    }

    private static void duplicates() {
        AssocStream x = Check.established(8);
        Check.sendMany(x, 4, 0, true);
        x.run(1, 0);
        checkKind("each came once", x, 5, 0);
        Check.sendMany(x, 4, 0, true);
        x.run(1, Check.TWICE);
        checkKind("each came twice", x, 5, 4);
        Check.sendMany(x, 2, 0, false);
        x.run(1, Check.LOST);
        x.run(1, Check.TWICE);
        checkKind("twice again after a lost reply", x, 5, 8);
        AssocStream y = Situations.receivedUnacked();
        for (int call = 0; call < 2000; call++) {
            y.run(16, Check.LOST | Check.TWICE);
        }
        checkKind("three chunks, twice, in 32000 rounds", y, 5, 192000);
    }

    private static void forged() {
        AssocStream x = Situations.made();
        x.injectEcho(9, 0, 1);
        checkKind("a wrong mac", x, 6, 1);
        Check.echo(x, 0, 0);
        checkKind("a wrong tag", x, 6, 2);
        Check.echo(x, 9, 1);
        checkKind("a wrong stamp", x, 6, 3);
        x.injectEcho(0, -1, -1);
        checkKind("all three wrong", x, 6, 4);
        Check.echo(x, 9, 0);
        Check.echo(x, 9, 0);
        Check.echo(x, 8, 0);
        x.run(3, 0);
        Check.echo(x, 9, 0);
        checkKind("new, duplicate, busy and stale ones", x, 6, 4);
    }

    private static void stale() {
        AssocStream x = Situations.cookieEchoed(3);
        Check.echo(x, 9, 0);
        checkKind("an injected one", x, 7, 1);
        x.run(1, Check.LOST);
        checkKind("the client's own, reply lost", x, 7, 2);
        x.run(1, 0);
        checkKind("the client's own", x, 7, 3);
        x.run(2, 0);
        Check.due("a fresh one", x.clientState(), AssocStream.ESTABLISHED);
        checkKind("a fresh one", x, 7, 3);
        checkKind("none is forged", x, 6, 0);
    }

    private static void aborts() {
        AssocStream x = Situations.aborted();
        checkKind("one", x, 8, 1);
        x.run(16, 0);
        checkKind("still one", x, 8, 1);
        x.connect();
        x.run(1, 0);
        x.run(1, Check.LOST);
        checkKind("an unheard one is none", x, 8, 1);
        x.run(1, 0);
        checkKind("two", x, 8, 2);
        for (int call = 0; call < 300; call++) {
            x.connect();
            x.run(2, 0);
        }
        checkKind("302", x, 8, 302);
    }

    private static void onlyIncrease() {
        Situations.all().forEach((name, make) -> {
            AssocStream x = make.get();
            int[] before = new int[9];
            for (int step = 0; step < 40; step++) {
                x.connect();
                Check.echo(x, step % 3 * 7, x.counter(AssocStream.C_NOW) - step % 4);
                x.setPath(step & 1, step % 3 != 0);
                x.send(step % 8, step % 2 == 0);
                x.run(1, step);
                for (int kind = AssocStream.C_DUPLICATES; kind <= AssocStream.C_ABORTS; kind++) {
                    Check.due("counter(" + kind + ") does not fall, " + name, x.counter(kind) >= before[kind], true);
                    before[kind] = x.counter(kind);
                }
            }
        });
        Check.due("start", Check.counters(Situations.made()), "0 0 0 0 0 0 0 0 0");
    }

    private static void changesNothing() {
        Situations.all().forEach((name, make) -> Check.changesNothing("counter, " + name, make, x -> {
            for (int kind : NO_KINDS) {
                x.counter(kind);
            }
            for (int kind = 0; kind <= 8; kind++) {
                x.counter(kind);
                x.counter(kind);
            }
        }));
    }
}
