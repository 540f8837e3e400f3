/** The sections 'What it is' and 'Terms', as far as they name edges that more than one promise leans on. */
final class TermsTest {
    public static void main(String[] args) {
        Check.sentence("Time moves only inside run().", TermsTest::timeMovesInRunAlone);
        Check.sentence("The round counter NOW starts at 0, and each round first adds 1 to it, so the first round is round 1.",
            TermsTest::firstRoundIsRoundOne);
        Check.sentence("Its id is the number of messages accepted before it (0, 1, 2, ...).", TermsTest::idsCountTheAccepted);
        Check.sentence("The ordered messages of one stream get ranks 0, 1, 2, ... in id order", TermsTest::ranksPerStream);
        Check.sentence("unordered messages have no rank.", TermsTest::unorderedHaveNoRank);
        Check.sentence("For each stream s the server keeps EXPECT[s]", TermsTest::streamsWaitApart);
        Check.sentence("TX (starts 0), RECEIVED (starts false) and ACKED (starts false)", TermsTest::messagesStartBlank);
        Check.sentence("HELD means RECEIVED, ORDERED and not in the delivery log.", TermsTest::heldMeansAllThree);
        Check.sentence("ALTERNATE is always 1 - PRIMARY.", TermsTest::alternateIsTheOther);
        Check.sentence("the server keeps no association state at all until it accepts a cookie echo.",
            TermsTest::listeningKeepsNothing);
        Check.sentence("SERVER TAG is the tag (1..255) of the one association it accepted.", TermsTest::oneTagIsAccepted);
        Check.sentence("It never returns to 0.", TermsTest::tagNeverReturnsToZero);
        Check.sentence("MAC(tag, stamp) is computed in wrapping 32-bit int arithmetic", TermsTest::knownChecks);
        Check.sentence("MAC = (h ^ (h >>> 16)) & 65535", TermsTest::oneCheckOfAllIsRight);
        Check.sentence("Multiplications overflow and wrap exactly as Java int multiplication does.", TermsTest::checksWrap);
        Check.sentence("is STALE when n - t > LIFE: an injected cookie", TermsTest::injectedCookieAges);
        Check.sentence("is STALE when n - t > LIFE: the client's cookie", TermsTest::ownCookieAges);
        Check.finish();
    }

    private static void timeMovesInRunAlone() {
        Situations.all().forEach((name, make) -> {
            AssocStream x = make.get();
            int now = x.counter(AssocStream.C_NOW);
            x.connect();
            x.send(0, false);
            x.send(8, true);
            x.setPath(0, false);
            x.setPath(2, true);
            x.loseNext(1, 4);
            x.loseNext(-1, 4);
            x.injectEcho(9, now, 0);
            Check.echo(x, 9, now);
            Check.echo(x, 9, now - 3);
            Check.picture(x);
            Check.due("NOW, " + name, x.counter(AssocStream.C_NOW), now);
        });
    }

    private static void firstRoundIsRoundOne() {
        AssocStream x = new AssocStream(Check.KEY, 1, 8, 7);
        Check.due("NOW at the start", x.counter(AssocStream.C_NOW), 0);
        x.connect();
        x.run(1, 0);
        Check.due("NOW after a round", x.counter(AssocStream.C_NOW), 1);
        x.run(1, Check.LOST);
        Check.due("the first cookie, of stamp 1, is fresh in round 2", x.serverTag(), 7);
        x.run(1, 0);
        Check.due("and stale in round 3", x.counter(AssocStream.C_STALE), 1);
    }

    private static void idsCountTheAccepted() {
        AssocStream x = Situations.made();
        for (int id = 0; id < 16; id++) {
            Check.due("refused", x.send(8, false), AssocStream.SEND_BAD_STREAM);
            Check.due("accepted", x.send(id % 8, id % 2 == 0), id);
        }
        Check.due("refused", x.send(0, false), AssocStream.SEND_FULL);
        x.connect();
        x.run(3, 0);
        Check.due("after a refused one", x.send(0, false), 16);
    }

    private static void ranksPerStream() {
        AssocStream x = Check.established(1);
        for (int id = 0; id < 16; id++) {
            x.send(id % 8, false);
        }
        x.run(1, Check.REVERSE);
        Check.checkLog("each stream in its own order", x, "7 15 6 14 5 13 4 12 3 11 2 10 1 9 0 8");
    }

    private static void unorderedHaveNoRank() {
        AssocStream x = Check.established(1);
        x.send(0, true);
        x.send(0, false);
        x.send(0, true);
        x.send(0, true);
        x.send(0, false);
        x.loseNext(0, 1);
        Check.due("a lost unordered message holds none back", x.run(1, 0), 4);
        Check.checkLog("in order", x, "1 2 3 4");
        Check.due("none is held", x.counter(AssocStream.C_HELD), 0);
    }

    private static void streamsWaitApart() {
        for (int late = 0; late < 8; late++) {
            AssocStream x = Check.established(1);
            x.send(late, false);
            for (int stream = 0; stream < 8; stream++) {
                x.send(stream, false);
            }
            x.loseNext(0, 1);
            Check.due("stream " + late + " waits, the others do not", x.run(1, 0), 7);
            Check.due("held on stream " + late, x.counter(AssocStream.C_HELD), 1);
            Check.due("stream " + late + " goes on", x.run(1, 0), 2);
            Check.due("last of the log", x.deliveredAt(8), 1 + late);
        }
    }

    private static void messagesStartBlank() {
        Situations.all().forEach((name, make) -> {
            AssocStream x = make.get();
            int id = x.send(0, false);
            if (id >= 0) {
                Check.due("TX, " + name, x.transmissions(id), 0);
                Check.due("ACKED, " + name, x.isAcked(id), false);
            }
        });
        AssocStream y = Check.established(1);
        for (int id = 0; id < 128; id++) {
            y.send(id % 8, id % 2 == 0);
            Check.due("TX of " + id, y.transmissions(id), 0);
            Check.due("ACKED of " + id, y.isAcked(id), false);
            y.run(1, 0);
        }
        Check.due("not RECEIVED at first, so no duplicate", y.counter(AssocStream.C_DUPLICATES), 0);
    }

    private static void heldMeansAllThree() {
        AssocStream x = Check.established(8);
        x.send(0, false);
        x.send(0, true);
        x.send(0, false);
        Check.due("none is RECEIVED", x.counter(AssocStream.C_HELD), 0);
        x.loseNext(0, 1);
        x.run(1, 0);
        Check.due("the second ordered one alone", x.counter(AssocStream.C_HELD), 1);
        x.run(1, 0);
        Check.due("all are in the log", x.counter(AssocStream.C_HELD), 0);
        Check.checkLog("all", x, "1 0 2");
    }

    private static void alternateIsTheOther() {
        AssocStream x = Situations.failedOver();
        x.setPath(0, true);
        x.run(1, 0);
        Check.checkActive("path 0 came back as alternate", x, true, true, 1);
        x.loseNext(1, 1);
        x.send(0, true);
        x.run(1, 0);
        Check.checkErrors("first try on path 1", x, 0, 1);
        x.setPath(1, false);
        Check.due("second try on path 0", x.run(1, 0), 1);
    }

    private static void listeningKeepsNothing() {
        AssocStream x = new AssocStream(Check.KEY, 1, 8, 7);
        x.connect();
        x.run(1, Check.LOST);
        Check.due("after an INIT with its reply lost", x.serverTag(), 0);
        x.run(1, 0);
        Check.due("after the cookie is given", x.serverTag(), 0);
        x.setPath(0, false);
        x.run(1, 0);
        x.setPath(0, true);
        x.run(1, 0);
        Check.due("the echo was stale", x.counter(AssocStream.C_STALE), 1);
        Check.due("after a stale echo", x.serverTag(), 0);
        Check.due("the cookie of another client", Check.echo(x, 9, 4), AssocStream.ECHO_NEW);
        Check.due("is as welcome", x.serverTag(), 9);
    }

    private static void oneTagIsAccepted() {
        for (int tag = 1; tag <= 255; tag++) {
            AssocStream x = Situations.made();
            Check.echo(x, tag, 0);
            Check.due("serverTag", x.serverTag(), tag);
            Check.echo(x, 256 - tag, 0);
            Check.echo(x, 1 + tag % 255, 0);
            Check.due("serverTag stays", x.serverTag(), tag);
        }
    }

    private static void tagNeverReturnsToZero() {
        AssocStream x = Situations.aborted();
        Check.due("after an ABORT", x.serverTag(), 9);
        x.run(16, 0);
        x.run(16, Check.LOST);
        x.connect();
        x.run(1, 0);
        Check.setBoth(x, false);
        x.run(16, 0);
        Check.setBoth(x, true);
        x.run(1, 0);
        Check.due("the echo was stale, as one before", x.counter(AssocStream.C_STALE), 2);
        Check.due("after a stale echo", x.serverTag(), 9);
        Check.echo(x, 0, x.counter(AssocStream.C_NOW));
        Check.due("after an echo of tag 0", x.serverTag(), 9);
    }

    /** Reckoned outside Java. */
    private static void knownChecks() {
        checkMac(1, 1, 0, 24020);
        checkMac(1, 255, 0, 49670);
        checkMac(65535, 1, 0, 55138);
        checkMac(65535, 255, 0, 50864);
        checkMac(4660, 9, 0, 59987);
        checkMac(4660, 7, 1, 55772);
        checkMac(32768, 128, 3, 62646);
        checkMac(65535, 255, 16, 50848);
        checkMac(2, 200, 16, 15292);
        checkMac(4660, 9, 65536, 59986);
        checkMac(4660, 9, 70000, 64290);
        checkMac(65535, 255, 69999, 55262);
    }

    private static void checkMac(int key, int tag, int stamp, int mac) {
        AssocStream x = new AssocStream(key, 16, 1, 1);
        int left = stamp;
        while (left > 0) {
            x.run(left, 0);
            left -= Math.min(left, 16);
        }
        Check.due("NOW", x.counter(AssocStream.C_NOW), stamp);
        Check.due("key " + key + ", tag " + tag + ", stamp " + stamp, x.injectEcho(tag, stamp, mac), AssocStream.ECHO_NEW);
    }

    private static void oneCheckOfAllIsRight() {
        AssocStream x = Situations.made();
        int right = 59987;
        for (int mac = 0; mac < 65536; mac++) {
            int want = mac == right ? AssocStream.ECHO_NEW : AssocStream.ECHO_FORGED;
            Check.due("mac " + mac, x.injectEcho(9, 0, mac), want);
        }
        Check.due("forged", x.counter(AssocStream.C_FORGED), 65535);
    }

    private static void checksWrap() {
        for (int key = 1; key < 65536; key += 251) {
            for (int tag = 1; tag < 256; tag += 127) {
                AssocStream x = new AssocStream(key, 16, 1, 1);
                x.run(3, 0);
                int mac = Check.mac(key, tag, 3);
                Check.due("key " + key + ", tag " + tag, x.injectEcho(tag, 3, mac), AssocStream.ECHO_NEW);
            }
        }
    }

    private static void injectedCookieAges() {
        for (int life = 1; life <= 16; life++) {
            AssocStream x = new AssocStream(Check.KEY, life, 1, 7);
            for (int stamp = 0; stamp < 3; stamp++) {
                x.run(stamp == 0 ? life : 1, 0);
                Check.due("age " + life + " of " + life, Check.echo(x, 9, stamp) >= AssocStream.ECHO_NEW, true);
                Check.due("age 0 of " + life, Check.echo(x, 9, x.counter(AssocStream.C_NOW)), AssocStream.ECHO_DUPLICATE);
                if (stamp > 0) {
                    Check.due("age " + (life + 1) + " of " + life, Check.echo(x, 9, stamp - 1), AssocStream.ECHO_STALE);
                }
            }
        }
    }

    private static void ownCookieAges() {
        for (int life = 1; life <= 16; life++) {
            Check.due("age " + life + " of " + life, stateAfterEchoAt(life, life), AssocStream.ESTABLISHED);
            Check.due("age " + (life + 1) + " of " + life, stateAfterEchoAt(life + 1, life), AssocStream.COOKIE_WAIT);
        }
    }

    private static int stateAfterEchoAt(int age, int life) {
        AssocStream x = new AssocStream(Check.KEY, life, 8, 7);
        x.connect();
        x.run(1, 0);
        Check.setBoth(x, false);
        for (int round = 1; round < age; round++) {
            x.run(1, 0);
        }
        Check.setBoth(x, true);
        x.run(1, 0);
        return x.clientState();
    }
}
