import java.util.ArrayList;
import java.util.Collections;
import java.util.List;

/**
 * A second writing of the document, in lists and objects and in its own words'
 * order, against which ModelTest holds the class.
 */
final class Model {
    private static final class Message {
        int id;
        int stream;
        boolean ordered;
        int rank;
        int tx;
        boolean received;
        boolean acked;
    }

    private static final class Path {
        boolean up = true;
        int lose;
        boolean active = true;
        int errors;
        boolean sent;
        boolean answered;
    }

    private final int key;
    private final int life;
    private final int threshold;
    private final int tag;
    private final List<Message> messages = new ArrayList<>();
    private final List<Message> log = new ArrayList<>();
    private final int[] expect = new int[8];
    private final Path[] paths = {new Path(), new Path()};
    private int primary;
    private int state;
    private int stamp;
    private int serverTag;
    private int now;
    private int duplicates;
    private int forged;
    private int stale;
    private int aborts;

    Model(int key, int life, int threshold, int tag) {
        this.key = within(key, 1, 65535);
        this.life = within(life, 1, 16);
        this.threshold = within(threshold, 1, 8);
        this.tag = within(tag, 1, 255);
    }

    private static int within(int value, int least, int greatest) {
        return Math.max(least, Math.min(greatest, value));
    }

    int connect() {
        if (state != 0) {
            return 0;
        }
        state = 1;
        return 1;
    }

    int send(int stream, boolean unordered) {
        if (stream < 0 || stream > 7) {
            return -1;
        }
        int accepted = messages.size();
        if (accepted == 128) {
            return -2;
        }
        if (messages.stream().anyMatch(m -> !m.acked && m.id <= accepted - 16)) {
            return -3;
        }
        Message made = new Message();
        made.id = accepted;
        made.stream = stream;
        made.ordered = !unordered;
        made.rank = (int) messages.stream().filter(m -> m.ordered && m.stream == stream).count();
        messages.add(made);
        return made.id;
    }

    int run(int rounds, int mode) {
        int before = log.size();
        int left = within(rounds, 1, 16);
        while (left-- > 0) {
            round((mode & 1) == 1, (mode & 2) == 2, (mode & 4) == 0);
        }
        return log.size() - before;
    }

    private void round(boolean reverse, boolean twice, boolean reply) {
        now++;
        for (Path p : paths) {
            p.sent = false;
            p.answered = false;
        }
        switch (state) {
            case 1 -> init(reply);
            case 2 -> echo(reply);
            case 3 -> data(reverse, twice, reply);
            default -> { }
        }
        for (Path p : paths) {
            if (!p.active) {
                p.sent = true;
                p.answered |= p.up && reply;
            }
        }
        for (Path p : paths) {
            if (p.answered) {
                p.errors = 0;
                p.active = true;
            } else if (p.sent) {
                p.errors++;
                if (p.active && p.errors > threshold) {
                    p.active = false;
                }
            }
        }
        if (!paths[primary].active && paths[1 - primary].active) {
            primary = 1 - primary;
        }
    }

    private void init(boolean reply) {
        Path p = paths[primary];
        p.sent = true;
        if (p.up && reply) {
            p.answered = true;
            stamp = now;
            state = 2;
        }
    }

    private void echo(boolean reply) {
        Path p = paths[primary];
        p.sent = true;
        if (!p.up) {
            return;
        }
        int next;
        if (now - stamp > life) {
            stale++;
            next = 1;
        } else if (serverTag == 0) {
            serverTag = tag;
            next = 3;
        } else if (serverTag == tag) {
            next = 3;
        } else {
            next = 0;
        }
        if (reply) {
            p.answered = true;
            state = next;
            aborts += next == 0 ? 1 : 0;
        }
    }

    private void data(boolean reverse, boolean twice, boolean reply) {
        List<Message> arrived = new ArrayList<>();
        List<Path> arrivedOn = new ArrayList<>();
        for (Message m : messages) {
            if (m.acked) {
                continue;
            }
            Path q = paths[primary];
            if (m.tx > 0 && paths[1 - primary].active) {
                q = paths[1 - primary];
            }
            m.tx++;
            q.sent = true;
            if (!q.up) {
                continue;
            }
            if (q.lose > 0) {
                q.lose--;
                continue;
            }
            arrived.add(m);
            arrivedOn.add(q);
        }
        if (reverse) {
            Collections.reverse(arrived);
        }
        for (Message m : arrived) {
            process(m);
            if (twice) {
                process(m);
            }
        }
        if (reply && !arrived.isEmpty()) {
            arrivedOn.forEach(q -> q.answered = true);
            messages.stream().filter(m -> m.received).forEach(m -> m.acked = true);
        }
    }

    private void process(Message m) {
        if (m.received) {
            duplicates++;
            return;
        }
        m.received = true;
        if (!m.ordered) {
            log.add(m);
            return;
        }
        Message due = m.rank == expect[m.stream] ? m : null;
        while (due != null) {
            log.add(due);
            expect[m.stream]++;
            due = messages.stream()
                .filter(h -> held(h) && h.stream == m.stream && h.rank == expect[m.stream])
                .findFirst().orElse(null);
        }
    }

    private boolean held(Message m) {
        return m.received && m.ordered && !log.contains(m);
    }

    int setPath(int path, boolean up) {
        if (path != 0 && path != 1) {
            return 0;
        }
        paths[path].up = up;
        return 1;
    }

    int loseNext(int path, int count) {
        if (path != 0 && path != 1) {
            return 0;
        }
        paths[path].lose = within(count, 0, 255);
        return 1;
    }

    int mac(int tag, int stamp) {
        return Check.mac(key, tag, stamp);
    }

    int injectEcho(int tag, int stamp, int mac) {
        if (mac != mac(tag, stamp) || tag < 1 || tag > 255 || stamp < 0 || stamp > now) {
            forged++;
            return 0;
        }
        if (now - stamp > life) {
            stale++;
            return 1;
        }
        if (serverTag == 0) {
            serverTag = tag;
            return 2;
        }
        return serverTag == tag ? 3 : 4;
    }

    int now() {
        return now;
    }

    /** In the form of Check.picture. */
    String picture() {
        StringBuilder all = new StringBuilder();
        all.append("state ").append(state).append(" tag ").append(serverTag).append(" primary ").append(primary);
        for (Path p : paths) {
            all.append(" path ").append(p.errors).append(p.active ? "+" : "-");
        }
        long unacked = messages.stream().filter(m -> !m.acked).count();
        long held = messages.stream().filter(this::held).count();
        long[] counters = {now, messages.size(), unacked, log.size(), held, duplicates, forged, stale, aborts};
        all.append(" counters");
        for (long counter : counters) {
            all.append(' ').append(counter);
        }
        all.append(" messages");
        for (Message m : messages) {
            all.append(' ').append(m.tx).append(m.acked ? "a" : "u");
        }
        all.append(" log ");
        for (int i = 0; i < log.size(); i++) {
            all.append(i == 0 ? "" : " ").append(log.get(i).id);
        }
        return all.toString();
    }
}
