/** All that the calls which change nothing tell of an object, as one text. */
final class Picture {
    private Picture() {
    }

    static String of(MovedFrames x) {
        StringBuilder text = new StringBuilder();
        for (int frame = -1; frame <= 64; frame++) {
            text.append(x.owner(frame)).append(':');
            for (int w = -1; w <= 16; w++) {
                text.append(x.word(frame, w)).append(',');
            }
        }
        for (int space = -3; space <= 4; space++) {
            for (int page = -1; page <= 256; page++) {
                text.append(x.frame(space, page)).append(' ');
            }
        }
        for (int order = -1; order <= 7; order++) {
            text.append(x.blocks(order)).append(';');
        }
        return text.append(x.free()).append('/').append(x.moved()).toString();
    }
}
