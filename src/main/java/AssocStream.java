public final class AssocStream {
    public static final int CLOSED = 0;
    public static final int COOKIE_WAIT = 1;
    public static final int COOKIE_ECHOED = 2;
    public static final int ESTABLISHED = 3;
    public static final int STREAMS = 8;
    public static final int MAX_MESSAGES = 128;
    public static final int WINDOW = 16;
    public static final int MAC_PRIME = 16777619;
    public static final int SEND_BAD_STREAM = -1;
    public static final int SEND_LIMIT = -2;
    public static final int SEND_FULL = -3;
    public static final int ECHO_FORGED = 0;
    public static final int ECHO_STALE = 1;
    public static final int ECHO_NEW = 2;
    public static final int ECHO_DUPLICATE = 3;
    public static final int ECHO_BUSY = 4;
    public static final int MODE_REVERSE = 1;
    public static final int MODE_DUPLICATE = 2;
    public static final int MODE_NO_REPLY = 4;
    public static final int C_NOW = 0;
    public static final int C_SUBMITTED = 1;
    public static final int C_OUTSTANDING = 2;
    public static final int C_DELIVERED = 3;
    public static final int C_HELD = 4;
    public static final int C_DUPLICATES = 5;
    public static final int C_FORGED = 6;
    public static final int C_STALE = 7;
    public static final int C_ABORTS = 8;

    private static final int PATHS = 2;
    private static final int MAX_KEY = 65535;
    private static final int MAX_LIFE = 16;
    private static final int MAX_THRESHOLD = 8;
    private static final int MAX_TAG = 255;
    private static final int MAX_ROUNDS = 16;
    private static final int MAX_LOSSES = 255;
    private static final int MAC_MASK = 65535;
    private static final int NO_ANSWER = -1;
    private static final int REPLY_ERROR = 0;
    private static final int REPLY_COOKIE_ACK = 1;
    private static final int REPLY_ABORT = 2;

    private final int key;
    private final int life;
    private final int threshold;
    private final int clientTag;

    private int now = 0;
    private int state = CLOSED;
    private int heldStamp = 0;
    private int acceptedTag = 0;
    private int primary = 0;

    private final boolean[] passes = new boolean[PATHS];
    private final int[] lose = new int[PATHS];
    private final boolean[] active = new boolean[PATHS];
    private final int[] errors = new int[PATHS];
    private final boolean[] sent = new boolean[PATHS];
    private final boolean[] answered = new boolean[PATHS];
    private final boolean[] arrivedOn = new boolean[PATHS];

    private final int[] streamOf = new int[MAX_MESSAGES];
    private final boolean[] unorderedOf = new boolean[MAX_MESSAGES];
    private final int[] rankOf = new int[MAX_MESSAGES];
    private final int[] timesSent = new int[MAX_MESSAGES];
    private final boolean[] received = new boolean[MAX_MESSAGES];
    private final boolean[] acked = new boolean[MAX_MESSAGES];
    private int submitted = 0;

    private final int[] nextRank = new int[STREAMS];
    private final int[] expect = new int[STREAMS];
    private final int[] deliveryLog = new int[MAX_MESSAGES];
    private int logLength = 0;
    private final int[] arrived = new int[MAX_MESSAGES];
    private int arrivedCount = 0;

    private int duplicates = 0;
    private int forged = 0;
    private int stale = 0;
    private int aborts = 0;

    public AssocStream(int key, int cookieLife, int threshold, int tag) {
        this.key = clamp(key, 1, MAX_KEY);
        this.life = clamp(cookieLife, 1, MAX_LIFE);
        this.threshold = clamp(threshold, 1, MAX_THRESHOLD);
        this.clientTag = clamp(tag, 1, MAX_TAG);
        for (int p = 0; p < PATHS; p++) {
            passes[p] = true;
            active[p] = true;
        }
    }

    public boolean connect() {
        if (state != CLOSED) {
            return false;
        }
        state = COOKIE_WAIT;
        return true;
    }

    public int send(int stream, boolean unordered) {
        if (stream < 0 || stream >= STREAMS) {
            return SEND_BAD_STREAM;
        }
        if (submitted >= MAX_MESSAGES) {
            return SEND_LIMIT;
        }
        if (windowIsFull()) {
            return SEND_FULL;
        }
        int id = submitted;
        streamOf[id] = stream;
        unorderedOf[id] = unordered;
        if (!unordered) {
            rankOf[id] = nextRank[stream];
            nextRank[stream] = nextRank[stream] + 1;
        }
        submitted = submitted + 1;
        return id;
    }

    public int run(int rounds, int mode) {
        int lengthBefore = logLength;
        int count = clamp(rounds, 1, MAX_ROUNDS);
        for (int i = 0; i < count; i++) {
            playRound(mode);
        }
        return logLength - lengthBefore;
    }

    public boolean setPath(int path, boolean up) {
        if (!isPath(path)) {
            return false;
        }
        passes[path] = up;
        return true;
    }

    public boolean loseNext(int path, int count) {
        if (!isPath(path)) {
            return false;
        }
        lose[path] = clamp(count, 0, MAX_LOSSES);
        return true;
    }

    public int injectEcho(int tag, int stamp, int mac) {
        if (mac != cookieCheck(tag, stamp) || tag < 1 || tag > MAX_TAG || stamp < 0 || stamp > now) {
            forged = forged + 1;
            return ECHO_FORGED;
        }
        if (now - stamp > life) {
            stale = stale + 1;
            return ECHO_STALE;
        }
        if (acceptedTag == 0) {
            acceptedTag = tag;
            return ECHO_NEW;
        }
        return acceptedTag == tag ? ECHO_DUPLICATE : ECHO_BUSY;
    }

    public int clientState() {
        return state;
    }

    public int serverTag() {
        return acceptedTag;
    }

    public int primaryPath() {
        return primary;
    }

    public int pathErrors(int path) {
        return isPath(path) ? errors[path] : NO_ANSWER;
    }

    public boolean pathActive(int path) {
        return isPath(path) && active[path];
    }

    public int deliveredAt(int index) {
        return index >= 0 && index < logLength ? deliveryLog[index] : NO_ANSWER;
    }

    public int transmissions(int id) {
        return isMessage(id) ? timesSent[id] : NO_ANSWER;
    }

    public boolean isAcked(int id) {
        return isMessage(id) && acked[id];
    }

    public int counter(int kind) {
        switch (kind) {
            case C_NOW:
                return now;
            case C_SUBMITTED:
                return submitted;
            case C_OUTSTANDING:
                return countUnacked();
            case C_DELIVERED:
                return logLength;
            case C_HELD:
                return countHeld();
            case C_DUPLICATES:
                return duplicates;
            case C_FORGED:
                return forged;
            case C_STALE:
                return stale;
            case C_ABORTS:
                return aborts;
            default:
                return NO_ANSWER;
        }
    }

    private static int clamp(int value, int least, int greatest) {
        if (value < least) {
            return least;
        }
        return value > greatest ? greatest : value;
    }

    private static boolean isPath(int path) {
        return path >= 0 && path < PATHS;
    }

    private boolean isMessage(int id) {
        return id >= 0 && id < submitted;
    }

    private int cookieCheck(int tag, int stamp) {
        int h = key;
        h = (h * MAC_PRIME) ^ tag;
        h = (h * MAC_PRIME) ^ stamp;
        return (h ^ (h >>> 16)) & MAC_MASK;
    }

    private boolean windowIsFull() {
        for (int id = 0; id <= submitted - WINDOW; id++) {
            if (!acked[id]) {
                return true;
            }
        }
        return false;
    }

    private int countUnacked() {
        int count = 0;
        for (int id = 0; id < submitted; id++) {
            if (!acked[id]) {
                count = count + 1;
            }
        }
        return count;
    }

    // Ordered messages are delivered in rank order, so a rank below
    // EXPECT tells that the message is in the log already.
    private int countHeld() {
        int count = 0;
        for (int id = 0; id < submitted; id++) {
            if (received[id] && !unorderedOf[id] && rankOf[id] >= expect[streamOf[id]]) {
                count = count + 1;
            }
        }
        return count;
    }

    private void playRound(int mode) {
        boolean reply = (mode & MODE_NO_REPLY) == 0;
        startRound();
        if (state == COOKIE_WAIT) {
            sendInit(reply);
        } else if (state == COOKIE_ECHOED) {
            echoCookie(reply);
        } else if (state == ESTABLISHED) {
            transmitUnacked();
            processArrived(mode);
            if (reply && arrivedCount > 0) {
                acknowledge();
            }
        }
        sendHeartbeats(reply);
        judgePaths();
        choosePrimary();
    }

    private void startRound() {
        now = now + 1;
        arrivedCount = 0;
        for (int p = 0; p < PATHS; p++) {
            sent[p] = false;
            answered[p] = false;
            arrivedOn[p] = false;
        }
    }

    private void sendInit(boolean reply) {
        sent[primary] = true;
        if (passes[primary] && reply) {
            answered[primary] = true;
            heldStamp = now;
            state = COOKIE_ECHOED;
        }
    }

    private void echoCookie(boolean reply) {
        sent[primary] = true;
        if (!passes[primary]) {
            return;
        }
        // The server's judgement stands even when its reply is lost.
        int verdict = judgeClientCookie();
        if (!reply) {
            return;
        }
        answered[primary] = true;
        if (verdict == REPLY_ERROR) {
            state = COOKIE_WAIT;
        } else if (verdict == REPLY_COOKIE_ACK) {
            state = ESTABLISHED;
        } else {
            state = CLOSED;
            aborts = aborts + 1;
        }
    }

    // The check value is not looked at here: the client echoes the cookie
    // unchanged, so it always agrees.
    private int judgeClientCookie() {
        if (now - heldStamp > life) {
            stale = stale + 1;
            return REPLY_ERROR;
        }
        if (acceptedTag == 0) {
            acceptedTag = clientTag;
        }
        return acceptedTag == clientTag ? REPLY_COOKIE_ACK : REPLY_ABORT;
    }

    private void transmitUnacked() {
        int alternate = 1 - primary;
        int retryPath = active[alternate] ? alternate : primary;
        for (int id = 0; id < submitted; id++) {
            if (!acked[id]) {
                transmit(id, timesSent[id] == 0 ? primary : retryPath);
            }
        }
    }

    private void transmit(int id, int path) {
        timesSent[id] = timesSent[id] + 1;
        sent[path] = true;
        if (!passes[path]) {
            return;
        }
        if (lose[path] > 0) {
            lose[path] = lose[path] - 1;
            return;
        }
        arrivedOn[path] = true;
        arrived[arrivedCount] = id;
        arrivedCount = arrivedCount + 1;
    }

    private void processArrived(int mode) {
        boolean reverse = (mode & MODE_REVERSE) != 0;
        boolean twice = (mode & MODE_DUPLICATE) != 0;
        for (int i = 0; i < arrivedCount; i++) {
            int id = arrived[reverse ? arrivedCount - 1 - i : i];
            processChunk(id);
            if (twice) {
                processChunk(id);
            }
        }
    }

    private void processChunk(int id) {
        if (received[id]) {
            duplicates = duplicates + 1;
            return;
        }
        received[id] = true;
        if (unorderedOf[id]) {
            appendToLog(id);
        } else if (rankOf[id] == expect[streamOf[id]]) {
            deliverInOrder(id);
        }
    }

    // Ranks rise with ids within a stream, so one pass upwards from the
    // message that was due meets every held message that it sets free.
    private void deliverInOrder(int first) {
        int stream = streamOf[first];
        for (int id = first; id < submitted; id++) {
            if (streamOf[id] == stream && !unorderedOf[id]) {
                if (!received[id]) {
                    return;
                }
                appendToLog(id);
                expect[stream] = expect[stream] + 1;
            }
        }
    }

    private void appendToLog(int id) {
        deliveryLog[logLength] = id;
        logLength = logLength + 1;
    }

    private void acknowledge() {
        for (int p = 0; p < PATHS; p++) {
            if (arrivedOn[p]) {
                answered[p] = true;
            }
        }
        for (int id = 0; id < submitted; id++) {
            if (received[id]) {
                acked[id] = true;
            }
        }
    }

    private void sendHeartbeats(boolean reply) {
        for (int p = 0; p < PATHS; p++) {
            if (!active[p]) {
                sent[p] = true;
                if (passes[p] && reply) {
                    answered[p] = true;
                }
            }
        }
    }

    private void judgePaths() {
        for (int p = 0; p < PATHS; p++) {
            if (answered[p]) {
                errors[p] = 0;
                active[p] = true;
            } else if (sent[p]) {
                errors[p] = errors[p] + 1;
                if (errors[p] > threshold) {
                    active[p] = false;
                }
            }
        }
    }

    // A recovered path does not take the primary's place back by itself.
    private void choosePrimary() {
        int alternate = 1 - primary;
        if (!active[primary] && active[alternate]) {
            primary = alternate;
        }
    }
}
