/** Promise 7; the cookie check itself is in TermsTest. */
final class InjectEchoTest {
    public static void main(String[] args) {
        Check.sentence("A cookie echo from outside arrives at the server directly, between rounds", InjectEchoTest::arrivesDirectly);
        Check.sentence("(a) mac != MAC(tag, stamp): C_FORGED + 1; answers ECHO_FORGED.", InjectEchoTest::wrongMac);
        Check.sentence("(a) mac != MAC(tag, stamp): bits above 65535 count", InjectEchoTest::wrongHighBits);
        Check.sentence("(a) mac != MAC(tag, stamp): the mac of another tag, stamp or key", InjectEchoTest::macOfAnother);
        Check.sentence("(b) tag outside 1..255: C_FORGED + 1; answers ECHO_FORGED.", InjectEchoTest::tagOutside);
        Check.sentence("(b) tags 1 and 255 are not outside", InjectEchoTest::tagsAtTheEdges);
        Check.sentence("(c) stamp < 0: C_FORGED + 1; answers ECHO_FORGED.", InjectEchoTest::stampBelowZero);
        Check.sentence("(c) stamp > NOW: C_FORGED + 1; answers ECHO_FORGED.", InjectEchoTest::stampAhead);
        Check.sentence("(c) stamps 0 and NOW are not outside", InjectEchoTest::stampsAtTheEdges);
        Check.sentence("(d) NOW - stamp > LIFE: C_STALE + 1; answers ECHO_STALE.", InjectEchoTest::stale);
        Check.sentence("(d) NOW - stamp == LIFE is not stale", InjectEchoTest::notYetStale);
        Check.sentence("(e) SERVER TAG is 0: SERVER TAG = tag; answers ECHO_NEW.", InjectEchoTest::newTag);
        Check.sentence("(f) SERVER TAG == tag: answers ECHO_DUPLICATE.", InjectEchoTest::sameTag);
        Check.sentence("(g) otherwise: answers ECHO_BUSY.", InjectEchoTest::otherTag);
        Check.sentence("The checks are made in this order: (a), (b), (c) before (d)", InjectEchoTest::forgedBeforeStale);
        Check.sentence("The checks are made in this order: (a), (b), (c) before (e), (f), (g)", InjectEchoTest::forgedBeforeTags);
        Check.sentence("The checks are made in this order: (d) before (e)", InjectEchoTest::staleBeforeNew);
        Check.sentence("The checks are made in this order: (d) before (f), (g)", InjectEchoTest::staleBeforeTags);
        Check.sentence("MAC here is computed with any int tag and stamp", InjectEchoTest::anyInts);
        Check.sentence("Nothing changes except what is stated.", InjectEchoTest::nothingElseChanges);
        Check.sentence("The client is never affected: STATE, STAMP, messages, paths and NOW stay as they were.",
            InjectEchoTest::clientIsNotAffected);
        Check.sentence("The client is never affected: STAMP", InjectEchoTest::stampIsNotAffected);
        Check.finish();
    }

    /** LIFE is 2, NOW is 5, nothing accepted. */
    private static AssocStream atRoundFive() {
        AssocStream x = Situations.made();
        x.run(5, 0);
        return x;
    }

    private static void checkForged(AssocStream x, String what, int tag, int stamp, int mac) {
        int forged = x.counter(AssocStream.C_FORGED);
        int serverTag = x.serverTag();
        Check.due(what, x.injectEcho(tag, stamp, mac), AssocStream.ECHO_FORGED);
        Check.due(what + ": forged", x.counter(AssocStream.C_FORGED), forged + 1);
        Check.due(what + ": server tag", x.serverTag(), serverTag);
        Check.due(what + ": stale", x.counter(AssocStream.C_STALE), 0);
    }

    private static void arrivesDirectly() {
        AssocStream x = Situations.made();
        Check.setBoth(x, false);
        x.loseNext(0, 9);
        x.loseNext(1, 9);
        Check.due("both paths down", Check.echo(x, 9, 0), AssocStream.ECHO_NEW);
        Check.due("server tag at once", x.serverTag(), 9);
        x.run(1, Check.LOST);
        Check.due("after a round without replies", Check.echo(x, 9, 1), AssocStream.ECHO_DUPLICATE);
        Check.due("both paths inactive", Check.echo(Situations.bothInactive(), 9, 18), AssocStream.ECHO_BUSY);
    }

    private static void wrongMac() {
        AssocStream x = Situations.made();
        int right = Check.mac(Check.KEY, 9, 0);
        for (int bit = 0; bit < 16; bit++) {
            checkForged(x, "bit " + bit, 9, 0, right ^ 1 << bit);
        }
        for (int mac : new int[] {right + 1, right - 1, 0, 1, 65535, right ^ 65535}) {
            checkForged(x, "mac " + mac, 9, 0, mac);
        }
    }

    private static void wrongHighBits() {
        AssocStream x = Situations.made();
        int right = Check.mac(Check.KEY, 9, 0);
        for (int bit = 16; bit < 32; bit++) {
            checkForged(x, "bit " + bit, 9, 0, right ^ 1 << bit);
        }
        for (int mac : new int[] {right - 65536, right | -65536, -right, ~right, -1, Check.MIN, Check.MAX}) {
            checkForged(x, "mac " + mac, 9, 0, mac);
        }
    }

    private static void macOfAnother() {
        AssocStream x = atRoundFive();
        int right = Check.mac(Check.KEY, 9, 4);
        checkForged(x, "another tag", 8, 4, right);
        checkForged(x, "another stamp", 9, 5, right);
        checkForged(x, "tag and stamp changed about", 4, 5, Check.mac(Check.KEY, 5, 4));
        checkForged(x, "another key", 9, 4, Check.mac(Check.KEY + 1, 9, 4));
    }

    private static void tagOutside() {
        AssocStream x = atRoundFive();
        for (int tag : new int[] {Check.MIN, Check.MIN + 9, -65535, -256, -255, -1, 0, 256, 257, 265, 511, 65536, 65545,
            Check.MAX}) {
            checkForged(x, "tag " + tag, tag, 5, Check.mac(Check.KEY, tag, 5));
        }
        Check.echo(x, 9, 5);
        checkForged(x, "tag 0 when the server has one", 0, 5, Check.mac(Check.KEY, 0, 5));
        checkForged(x, "tag 265 when the server has 9", 265, 5, Check.mac(Check.KEY, 265, 5));
    }

    private static void tagsAtTheEdges() {
        for (int tag : new int[] {1, 2, 127, 128, 254, 255}) {
            AssocStream x = atRoundFive();
            Check.due("tag " + tag, Check.echo(x, tag, 5), AssocStream.ECHO_NEW);
            Check.due("server tag", x.serverTag(), tag);
        }
    }

    private static void stampBelowZero() {
        AssocStream x = Situations.made();
        AssocStream y = atRoundFive();
        for (int stamp : new int[] {Check.MIN, Check.MIN + 1, Check.MIN + 5, -65536, -3, -2, -1}) {
            checkForged(x, "stamp " + stamp + " at NOW 0", 9, stamp, Check.mac(Check.KEY, 9, stamp));
            checkForged(y, "stamp " + stamp + " at NOW 5", 9, stamp, Check.mac(Check.KEY, 9, stamp));
        }
    }

    private static void stampAhead() {
        AssocStream x = Situations.made();
        checkForged(x, "stamp 1 at NOW 0", 9, 1, Check.mac(Check.KEY, 9, 1));
        AssocStream y = atRoundFive();
        for (int stamp : new int[] {6, 7, 261, 65541, Check.MAX - 1, Check.MAX}) {
            checkForged(y, "stamp " + stamp + " at NOW 5", 9, stamp, Check.mac(Check.KEY, 9, stamp));
        }
    }

    private static void stampsAtTheEdges() {
        Check.due("stamp 0 at NOW 0", Check.echo(Situations.made(), 9, 0), AssocStream.ECHO_NEW);
        Check.due("stamp 5 at NOW 5", Check.echo(atRoundFive(), 9, 5), AssocStream.ECHO_NEW);
        AssocStream x = Situations.made();
        x.run(2, 0);
        Check.due("stamp 0 at NOW 2", Check.echo(x, 9, 0), AssocStream.ECHO_NEW);
    }

    private static void stale() {
        AssocStream x = atRoundFive();
        for (int stamp = 0; stamp <= 2; stamp++) {
            Check.due("stamp " + stamp, Check.echo(x, 9, stamp), AssocStream.ECHO_STALE);
            Check.due("stale", x.counter(AssocStream.C_STALE), stamp + 1);
        }
        Check.due("server tag", x.serverTag(), 0);
        Check.due("forged", x.counter(AssocStream.C_FORGED), 0);
    }

    private static void notYetStale() {
        AssocStream x = atRoundFive();
        Check.due("stamp 3", Check.echo(x, 9, 3), AssocStream.ECHO_NEW);
        Check.due("stale", x.counter(AssocStream.C_STALE), 0);
        x.run(1, 0);
        Check.due("stamp 3 a round later", Check.echo(x, 9, 3), AssocStream.ECHO_STALE);
    }

    private static void newTag() {
        AssocStream x = Situations.made();
        Check.due("first", Check.echo(x, 9, 0), AssocStream.ECHO_NEW);
        Check.due("server tag", x.serverTag(), 9);
        Check.due("second of the same", Check.echo(x, 9, 0), AssocStream.ECHO_DUPLICATE);
    }

    private static void sameTag() {
        AssocStream x = Check.established(1);
        Check.due("the client's tag, accepted in the handshake", Check.echo(x, 7, 2), AssocStream.ECHO_DUPLICATE);
        Check.due("with an older stamp", Check.echo(x, 7, 0), AssocStream.ECHO_DUPLICATE);
        Check.due("server tag", x.serverTag(), 7);
        Check.due("counters", Check.counters(x), "2 0 0 0 0 0 0 0 0");
    }

    private static void otherTag() {
        AssocStream x = Situations.made();
        Check.echo(x, 9, 0);
        for (int tag : new int[] {1, 7, 8, 10, 255}) {
            Check.due("tag " + tag, Check.echo(x, tag, 0), AssocStream.ECHO_BUSY);
        }
        Check.due("server tag", x.serverTag(), 9);
        Check.due("counters", Check.counters(x), "0 0 0 0 0 0 0 0 0");
        Check.due("when ESTABLISHED", Check.echo(Check.established(1), 9, 2), AssocStream.ECHO_BUSY);
    }

    private static void forgedBeforeStale() {
        AssocStream x = atRoundFive();
        checkForged(x, "(a)", 9, 0, Check.mac(Check.KEY, 9, 0) + 1);
        checkForged(x, "(b)", 256, 0, Check.mac(Check.KEY, 256, 0));
        checkForged(x, "(c)", 9, -1, Check.mac(Check.KEY, 9, -1));
    }

    private static void forgedBeforeTags() {
        AssocStream x = atRoundFive();
        Check.echo(x, 9, 5);
        for (int tag : new int[] {9, 10}) {
            checkForged(x, "(a) for tag " + tag, tag, 5, Check.mac(Check.KEY, tag, 5) + 1);
            checkForged(x, "(c) for tag " + tag, tag, 6, Check.mac(Check.KEY, tag, 6));
        }
        checkForged(x, "(b)", 256, 5, Check.mac(Check.KEY, 256, 5));
    }

    private static void staleBeforeNew() {
        AssocStream x = atRoundFive();
        Check.due("stale", Check.echo(x, 9, 2), AssocStream.ECHO_STALE);
        Check.due("server tag", x.serverTag(), 0);
    }

    private static void staleBeforeTags() {
        AssocStream x = atRoundFive();
        Check.echo(x, 9, 5);
        Check.due("stale, same tag", Check.echo(x, 9, 2), AssocStream.ECHO_STALE);
        Check.due("stale, other tag", Check.echo(x, 10, 2), AssocStream.ECHO_STALE);
        Check.due("stale", x.counter(AssocStream.C_STALE), 2);
    }

    private static void anyInts() {
        int[] odd = {Check.MIN, Check.MIN + 1, -65536, -1, 0, 256, 65536, Check.MAX - 1, Check.MAX};
        AssocStream x = atRoundFive();
        for (int tag : odd) {
            for (int stamp : odd) {
                checkForged(x, "tag " + tag + ", stamp " + stamp, tag, stamp, Check.mac(Check.KEY, tag, stamp));
                checkForged(x, "tag " + tag + ", stamp " + stamp + ", mac 0", tag, stamp, 0);
            }
        }
    }

    private static void nothingElseChanges() {
        Situations.all().forEach((name, make) -> {
            for (int tag : new int[] {7, 9, 256}) {
                for (int age = -1; age <= 3; age++) {
                    checkOneEcho(name + ", tag " + tag + ", age " + age, make.get(), make.get(), tag, age);
                }
            }
        });
    }

    private static void checkOneEcho(String what, AssocStream x, AssocStream left, int tag, int age) {
        int answer = Check.echo(x, tag, x.counter(AssocStream.C_NOW) - age);
        String[] counters = Check.counters(left).split(" ");
        int serverTag = left.serverTag();
        if (answer == AssocStream.ECHO_FORGED) {
            counters[6] = String.valueOf(left.counter(AssocStream.C_FORGED) + 1);
        } else if (answer == AssocStream.ECHO_STALE) {
            counters[7] = String.valueOf(left.counter(AssocStream.C_STALE) + 1);
        } else if (answer == AssocStream.ECHO_NEW) {
            serverTag = tag;
        }
        String want = "state " + left.clientState() + " tag " + serverTag + " " + Check.paths(left) + " counters "
            + String.join(" ", counters) + " " + Check.messages(left) + " log " + Check.log(left);
        Check.due("echo, " + what, Check.picture(x), want);
    }

    private static void clientIsNotAffected() {
        Situations.all().forEach((name, make) -> {
            if (make.get().serverTag() != 0) {
                Check.changesNothing("duplicate and busy echoes, " + name, make, x -> {
                    int now = x.counter(AssocStream.C_NOW);
                    Check.due("busy, " + name, Check.echo(x, 77, now), AssocStream.ECHO_BUSY);
                    Check.due("duplicate, " + name, Check.echo(x, x.serverTag(), now), AssocStream.ECHO_DUPLICATE);
                });
            }
        });
        AssocStream y = Situations.cookieWait();
        Check.due("new tag of the client", Check.echo(y, 7, 0), AssocStream.ECHO_NEW);
        Check.due("the client still waits", y.clientState(), AssocStream.COOKIE_WAIT);
        y.run(2, 0);
        Check.due("and agrees later", y.clientState(), AssocStream.ESTABLISHED);
    }

    private static void stampIsNotAffected() {
        AssocStream x = Situations.cookieEchoed(3);
        Check.due("a younger cookie of the client's tag", Check.echo(x, 7, 3), AssocStream.ECHO_NEW);
        x.run(1, 0);
        Check.due("the client's own is stale", x.counter(AssocStream.C_STALE), 1);
        Check.due("so it starts anew", x.clientState(), AssocStream.COOKIE_WAIT);
        AssocStream y = Situations.cookieEchoed(2);
        Check.due("an older cookie of the client's tag", Check.echo(y, 7, 0), AssocStream.ECHO_NEW);
        y.run(1, 0);
        Check.due("the client's own is fresh", y.clientState(), AssocStream.ESTABLISHED);
    }
}
